/-! ===== layer 3: the class's queue lays the same order ===== -/
theorem oN_z {n : Nat} (h : n < 2 ^ 31) : oN n = 0 ↔ n = 0 := oN_eq (a := n) (b := 0) h (by decide)
section QUEUE
variable {ad : Nat → Nat} {κ : jKt} {pr tr : Nat} {pa : Nat → Nat} {su : Nat → Nat → Nat}
/-- the queue holds the places of q -/
def QI (ad : Nat → Nat) (κ : jKt) (n : Nat) (q : Nat → Bool) : Prop := iS ad κ 6 1 = oN (cn q n) ∧ ho (iS ad κ 7) (cn q n) ∧ hj (iS ad κ 7) (cn q n) ∧ ∀ y, hm (iS ad κ 7) (cn q n) y ↔ ∃ x, x < n ∧ q x = true ∧ y = oN x
theorem QI_c {n : Nat} {q q' : Nat → Bool} (h : QI ad κ n q) (e : ∀ l, l < n → q l = q' l) : QI ad κ n q' := by
  unfold QI at h ⊢
  rw [← cn_c n e]
  refine ⟨h.1, h.2.1, h.2.2.1, fun y => (h.2.2.2 y).trans ?_⟩
  constructor
  · rintro ⟨x, h1, h2, h3⟩; exact ⟨x, h1, by rw [← e x h1]; exact h2, h3⟩
  · rintro ⟨x, h1, h2, h3⟩; exact ⟨x, h1, by rw [e x h1]; exact h2, h3⟩
theorem QI_k {κ' : jKt} {n : Nat} {q : Nat → Bool} (h : QI ad κ n q) (h6 : iS ad κ' 6 1 = iS ad κ 6 1) (h7 : ∀ j, iS ad κ' 7 j = iS ad κ 7 j) : QI ad κ' n q := by
  have e7 : iS ad κ' 7 = iS ad κ 7 := funext h7
  unfold QI at h ⊢
  rw [h6, e7]
  exact h
theorem QI_add (hi : ∀ a b, ad a = ad b → a = b) (hP : PT ad κ pr tr pa su) {n x : Nat} {q : Nat → Bool} (h : QI ad κ n q) (hq : q x = false) (hx : x < n) (hn : n ≤ 16) : ∃ κ', P_X3_add κ (ad 6) (oN x) = some κ' ∧ Fr ad (fun n => n = 6 ∨ n = 7) κ κ' ∧ QI ad κ' n (sb q x) := by
  obtain ⟨h1, h2, h3, h4⟩ := h
  have hc : cn (sb q x) n = cn q n + 1 := cn_add hq (by simp [sb]) n hx (fun l _ hl => by simp [sb, hl])
  have hle := cn_le (sb q x) n
  obtain ⟨κ', q1, q2, q3, q4, q5, q6⟩ := X3_add hi hP h1 (by omega) h2 h3 (x := x) (fun g => by
    obtain ⟨y, y1, y2, y3⟩ := (h4 _).mp g
    have := (oN_eq (by omega) (by omega)).mp y3
    rw [← this, hq] at y2; cases y2)
  refine ⟨κ', q1, q2, ?_⟩
  unfold QI
  rw [hc]
  refine ⟨q3, q4, q5, fun y => ?_⟩
  rw [q6, h4]
  constructor
  · rintro (⟨z, z1, z2, z3⟩ | e)
    · exact ⟨z, z1, by unfold sb; rw [z2]; split <;> rfl, z3⟩
    · exact ⟨x, hx, by simp [sb], e⟩
  · rintro ⟨z, z1, z2, z3⟩
    by_cases e : z = x
    · rw [e] at z3; exact Or.inr z3
    · unfold sb at z2
      rw [if_neg e] at z2
      exact Or.inl ⟨z, z1, z2, z3⟩
theorem QI_take (hi : ∀ a b, ad a = ad b → a = b) (hP : PT ad κ pr tr pa su) {n : Nat} {q : Nat → Bool} (h : QI ad κ n q) (hn : n ≤ 16) : match nxF q 0 n with
    | none => P_X3_takeLowest κ (ad 6) = some (-1, κ)
    | some x => ∃ κ', P_X3_takeLowest κ (ad 6) = some (oN x, κ') ∧ Fr ad (fun n => n = 6 ∨ n = 7) κ κ' ∧ QI ad κ' n (fun l => q l && decide (l ≠ x)) := by
  obtain ⟨h1, h2, h3, h4⟩ := h
  have hle := cn_le q n
  rcases Nat.eq_zero_or_pos (cn q n) with hz | hz
  · have hnone : nxF q 0 n = none := (nxF_none n 0).mpr (fun l _ hl => (cn_zero n).mp hz l (by omega))
    rw [hnone]
    rw [hz] at h1
    exact X3_take0 h1
  · obtain ⟨z, ez⟩ : ∃ z, cn q n = z + 1 := ⟨cn q n - 1, by omega⟩
    rw [ez] at h1 h2 h3 h4
    obtain ⟨κ', q1, q2, q3, q4, q5, q6, q7⟩ := X3_take hi hP h1 (by omega) h2 h3
    obtain ⟨x, x1, x2, x3⟩ := (h4 (iS ad κ 7 0)).mp ⟨0, by omega, rfl⟩
    have hsome : nxF q 0 n = some x := (nxF_some n 0 x).mpr ⟨by omega, by omega, x2, fun l _ hl => by
      cases hql : q l
      · rfl
      · have := q7 (oN l) ((h4 _).mpr ⟨l, by omega, hql, rfl⟩)
        rw [x3] at this
        have := (oN_le (by omega) (by omega)).mp this
        omega⟩
    rw [hsome]
    refine ⟨κ', by rw [q1, x3], q2, ?_⟩
    have hc : cn q n = cn (fun l => q l && decide (l ≠ x)) n + 1 := cn_add (x := x) (by simp) x2 n x1 (fun l _ hl => by simp [hl])
    have hz2 : cn (fun l => q l && decide (l ≠ x)) n = z := by omega
    unfold QI
    rw [hz2]
    refine ⟨q3, q4, q5, fun y => ?_⟩
    rw [q6, h4]
    constructor
    · rintro ⟨⟨l, l1, l2, l3⟩, l4⟩
      refine ⟨l, l1, ?_, l3⟩
      have : l ≠ x := fun e => l4 (by rw [l3, x3, e])
      simp [l2, this]
    · rintro ⟨l, l1, l2, l3⟩
      have l2' : (q l && decide (l ≠ x)) = true := l2
      have a : q l = true := by cases h : q l
                                · rw [h] at l2'; cases l2'
                                · rfl
      have b : l ≠ x := by
        intro e
        rw [e] at l2'
        simp at l2'
      refine ⟨⟨l, l1, a, l3⟩, fun e => b ?_⟩
      rw [l3, x3] at e
      exact (oN_eq (by omega) (by omega)).mp e
/-- how many sleeves still hold one back -/
noncomputable def hld (E : Nat → Nat → Prop) (n : Nat) (T : Nat → Bool) (i : Nat) : Nat := cn (fun f => pb (E i f) && !T f) n
theorem hld_0 {E : Nat → Nat → Prop} {n : Nat} (hE : ∀ l f, E l f → f < n) {T : Nat → Bool} {i : Nat} : hld E n T i = 0 ↔ ¬ ∃ f, E i f ∧ T f = false := by
  unfold hld
  rw [cn_zero]
  constructor
  · rintro h ⟨f, h1, h2⟩
    have := h f (hE i f h1)
    rw [pb_t.mpr h1, h2] at this
    cases this
  · intro h f hf
    cases hp : pb (E i f)
    · rfl
    · cases hT : T f
      · exact absurd ⟨f, pb_t.mp hp, hT⟩ h
      · rfl
theorem fre_h {E : Nat → Nat → Prop} {n : Nat} (hE : ∀ l f, E l f → f < n) {T : Nat → Bool} {i : Nat} : fre E T i = true ↔ T i = false ∧ hld E n T i = 0 := by
  rw [hld_0 hE]
  exact pb_t
theorem bool_c {a b : Bool} (h : a = true ↔ b = true) : a = b := by cases a <;> cases b <;> simp at h ⊢
theorem X1_queueFree (hi : ∀ a b, ad a = ad b → a = b) (hP : PT ad κ pr tr pa su) {r k : Nat} (hr : r < 11) (hk : k < 6) {v : Nat → Int32} {s : Nat} (h : SV κ (ad (bR r + 14 + 4 * k)) v s) (hG : GR v) (hs : s < nn v 1) :
    ∃ κ', P_X1_queueFreeSleeves κ (ad 2) (ad (bR r + 14 + 4 * k)) = some κ' ∧ Fr ad (fun n => n = 4 ∨ n = 5 ∨ n = 6 ∨ n = 7) κ κ' ∧ QI ad κ' (sl v s) (fre (dmB v s) (sew0 v s)) ∧ ∀ l, l < sl v s → iS ad κ' 5 l = oN (hld (dmB v s) (sl v s) (sew0 v s) l) := by
  have h16 := (hG.sl16 hs).1
  have hE := hG.E hs
  obtain ⟨S0, s1, s2⟩ := h.set hG hs
  have L : ∀ (q i f : Nat) (κ1 : jKt), i + q = sl v s → q < f → Fr ad (fun n => n = 4 ∨ n = 5 ∨ n = 6 ∨ n = 7) κ κ1 → QI ad κ1 (sl v s) (fun l => decide (l < i) && fre (dmB v s) (sew0 v s) l) → (∀ l, l < i → iS ad κ1 5 l = oN (hld (dmB v s) (sl v s) (sew0 v s) l)) →
      ∃ κ', P_X1_queueFreeSleeves_15 (ad 2) (ad (bR r + 14 + 4 * k)) S0 f κ1 (oN i) = some κ' ∧ Fr ad (fun n => n = 4 ∨ n = 5 ∨ n = 6 ∨ n = 7) κ κ' ∧ QI ad κ' (sl v s) (fre (dmB v s) (sew0 v s)) ∧ ∀ l, l < sl v s → iS ad κ' 5 l = oN (hld (dmB v s) (sl v s) (sew0 v s) l) := by
    intro q
    induction q with
    | zero =>
      intro i f κ1 h1 h2 hF hQ hH
      obtain ⟨f, rfl⟩ : ∃ g, f = g + 1 := ⟨f - 1, by omega⟩
      have hv1 : SV κ1 (ad (bR r + 14 + 4 * k)) v s := SV.fr hF hP hr hk (fun i _ => by unfold bR; omega) h
      refine ⟨κ1, ?_, hF, QI_c hQ (fun l hl => by rw [decide_eq_true (by omega : l < i), Bool.true_and]), fun l hl => hH l (by omega)⟩
      rw [P_X1_queueFreeSleeves_15, hv1.2.2.2.1, if_pos ((oN_le (by omega) (by omega)).mpr (by omega))]
    | succ q ih =>
      intro i f κ1 h1 h2 hF hQ hH
      obtain ⟨f, rfl⟩ : ∃ g, f = g + 1 := ⟨f - 1, by omega⟩
      have hv1 : SV κ1 (ad (bR r + 14 + 4 * k)) v s := SV.fr hF hP hr hk (fun i _ => by unfold bR; omega) h
      have hp1 := hF.pt hP
      have e1 : (oN i + 1 : Int32) = oN (i + 1) := oN_add i 1
      have hb : ∀ j, j < 32 → bt (sDm κ1 (ad (bR r + 14 + 4 * k)) i &&& (S0 ^^^ (-1))) j = (decide (j < sl v s) && (pb (dmB v s i j) && !sew0 v s j)) := by
        intro j hj
        rw [b_and, b_xor, b_m1 j hj, s2 j hj, Bool.xor_true]
        have hx := hv1.E i j (by omega) hj
        have hy : bt (sDm κ1 (ad (bR r + 14 + 4 * k)) i) j = pb (dmB v s i j) := bool_c (hx.trans pb_t.symm)
        rw [hy]
        by_cases g : j < sl v s
        · rw [decide_eq_true g, Bool.true_and, Bool.true_and]
        · rw [decide_eq_false g, Bool.false_and, Bool.false_and]
          cases hpp : pb (dmB v s i j)
          · rfl
          · exact absurd (hE i j (pb_t.mp hpp)) g
      have hbc : P_J6_bitCount_0f7a4 κ1 (sDm κ1 (ad (bR r + 14 + 4 * k)) i &&& (S0 ^^^ (-1))) = some (oN (hld (dmB v s) (sl v s) (sew0 v s) i)) := by
        rw [J6_cnt (fun j j1 j2 => by rw [hb j j2, decide_eq_false (by omega), Bool.false_and]), cnt_cn hb (by omega)]
        rfl
      have hle := cn_le (fun f => pb (dmB v s i f) && !sew0 v s f) (sl v s)
      have hle' : hld (dmB v s) (sl v s) (sew0 v s) i ≤ 16 := Nat.le_trans hle h16
      have F2 : Fr ad (fun n => n = 4 ∨ n = 5 ∨ n = 6 ∨ n = 7) κ (kU κ1 (ad 5) i (.int (oN (hld (dmB v s) (sl v s) (sew0 v s) i)))) := hF.trans (Fr.U hi (by unfold iSl; omega) (by omega))
      have hv2 : SV (kU κ1 (ad 5) i (.int (oN (hld (dmB v s) (sl v s) (sew0 v s) i)))) (ad (bR r + 14 + 4 * k)) v s := SV.fr F2 hP hr hk (fun i _ => by unfold bR; omega) h
      have hp2 := F2.pt hP
      have hQ2 : QI ad (kU κ1 (ad 5) i (.int (oN (hld (dmB v s) (sl v s) (sew0 v s) i)))) (sl v s) (fun l => decide (l < i) && fre (dmB v s) (sew0 v s) l) := QI_k hQ (by rw [iS_U hi, if_neg (by omega)]) (fun j => by rw [iS_U hi, if_neg (by omega)])
      have hH2 : ∀ l, l < i + 1 → iS ad (kU κ1 (ad 5) i (.int (oN (hld (dmB v s) (sl v s) (sew0 v s) i)))) 5 l = oN (hld (dmB v s) (sl v s) (sew0 v s) l) := by
        intro l hl
        rw [iS_U hi]
        by_cases e : l = i
        · rw [if_pos ⟨rfl, e⟩, e]
        · rw [if_neg (by omega)]; exact hH l (by omega)
      have rd : kI (kU κ1 (ad 5) i (.int (oN (hld (dmB v s) (sl v s) (sew0 v s) i)))) (ad 5) i = oN (hld (dmB v s) (sl v s) (sew0 v s) i) := hH2 i (by omega)
      have skip : fre (dmB v s) (sew0 v s) i = false → ∃ κ', P_X1_queueFreeSleeves_15 (ad 2) (ad (bR r + 14 + 4 * k)) S0 f (kU κ1 (ad 5) i (.int (oN (hld (dmB v s) (sl v s) (sew0 v s) i)))) (oN (i + 1)) = some κ' ∧ Fr ad (fun n => n = 4 ∨ n = 5 ∨ n = 6 ∨ n = 7) κ κ' ∧ QI ad κ' (sl v s) (fre (dmB v s) (sew0 v s)) ∧ ∀ l, l < sl v s → iS ad κ' 5 l = oN (hld (dmB v s) (sl v s) (sew0 v s) l) := by
        intro hno
        refine ih (i + 1) f _ (by omega) (by omega) F2 (QI_c hQ2 (fun l hl => ?_)) hH2
        by_cases e : l = i
        · rw [e, hno, Bool.and_false, Bool.and_false]
        · by_cases g : l < i
          · rw [decide_eq_true g, decide_eq_true (by omega : l < i + 1)]
          · rw [decide_eq_false g, decide_eq_false (by omega : ¬ l < i + 1)]
      have q7 : kR κ1 (ad 2) 2 = ad 5 := hp1.2.2.1.2.2.1
      have q7' : kR (kU κ1 (ad 5) i (.int (oN (hld (dmB v s) (sl v s) (sew0 v s) i)))) (ad 2) 2 = ad 5 := hp2.2.2.1.2.2.1
      have q8' : kR (kU κ1 (ad 5) i (.int (oN (hld (dmB v s) (sl v s) (sew0 v s) i)))) (ad 2) 3 = ad 6 := hp2.2.2.1.2.2.2.1
      rw [P_X1_queueFreeSleeves_15, hv1.2.2.2.1, if_neg (fun h => by have := (oN_le (by omega) (by omega)).mp h; omega), ck_t ((oN_jin (by omega)).mpr (by omega)), oN_ix (by omega), hbc, bd_s, ck_t ((oN_jin (by omega)).mpr (by omega)), bnd_e, q7, ck_t ((oN_jin (by omega)).mpr (by omega)), q7', rd, e1]
      by_cases hz : hld (dmB v s) (sl v s) (sew0 v s) i = 0
      · rw [if_pos (by rw [hz]; rfl), X4_isSewn (by omega), bd_s]
        by_cases hw : sSt (kU κ1 (ad 5) i (.int (oN (hld (dmB v s) (sl v s) (sew0 v s) i)))) (ad (bR r + 14 + 4 * k)) i = 115
        · rw [if_pos hw, if_neg (by decide)]
          refine skip ?_
          cases hx : fre (dmB v s) (sew0 v s) i
          · rfl
          · have := fre_un hx
            rw [(hv2.sewn hG hs i (by omega)).mp hw] at this
            cases this
        · have hw0 : sew0 v s i = false := by
            cases hx : sew0 v s i
            · rfl
            · exact absurd ((hv2.sewn hG hs i (by omega)).mpr hx) hw
          have hfr : fre (dmB v s) (sew0 v s) i = true := (fre_h hE).mpr ⟨hw0, hz⟩
          obtain ⟨κ2, a1, a2, a3⟩ := QI_add hi hp2 hQ2 (x := i) (by simp) (by omega) h16
          rw [if_neg hw, if_pos rfl, q8', a1, bd_s]
          refine ih (i + 1) f κ2 (by omega) (by omega) (F2.trans (a2.mono (fun n hn => by omega))) (QI_c a3 (fun l hl => ?_)) (fun l hl => ?_)
          · unfold sb
            by_cases e : l = i
            · rw [if_pos e, e, hfr, decide_eq_true (by omega : i < i + 1)]; rfl
            · rw [if_neg e]
              show (decide (l < i) && fre (dmB v s) (sew0 v s) l) = _
              by_cases g : l < i
              · rw [decide_eq_true g, decide_eq_true (by omega : l < i + 1)]
              · rw [decide_eq_false g, decide_eq_false (by omega : ¬ l < i + 1)]
          · rw [a2.i (by omega)]; exact hH2 l hl
      · rw [if_neg (fun g => hz ((oN_z (by omega)).mp g))]
        refine skip ?_
        cases hx : fre (dmB v s) (sew0 v s) i
        · rfl
        · exact absurd ((fre_h hE).mp hx).2 hz
  have F0 : Fr ad (fun n => n = 4 ∨ n = 5 ∨ n = 6 ∨ n = 7) κ (kU κ (ad 6) 1 (.int 0)) := Fr.U hi (by unfold iSl; omega) (by omega)
  have q3 : kR κ (ad 2) 3 = ad 6 := hP.2.2.1.2.2.2.1
  unfold P_X1_queueFreeSleeves
  rw [s1, bd_s, q3, bnd_e]
  have hc0 : cn (fun l => decide (l < 0) && fre (dmB v s) (sew0 v s) l) (sl v s) = 0 := (cn_zero _).mpr (fun l _ => by simp)
  refine L (sl v s) 0 4000 _ (by omega) (by omega) F0 ?_ (fun l hl => by omega)
  unfold QI
  rw [hc0]
  refine ⟨by rw [iS_U hi, if_pos ⟨rfl, rfl⟩]; rfl, fun i i1 i2 => by omega, fun i j i1 => by omega, fun y => ⟨?_, ?_⟩⟩
  · rintro ⟨i, i1, -⟩; omega
  · rintro ⟨x, x1, x2, -⟩; simp at x2
/-- what stands between two takings -/
def FQ (ad : Nat → Nat) (κ : jKt) (v : Nat → Int32) (s : Nat) (T : Nat → Bool) : Prop :=
  QI ad κ (sl v s) (fre (dmB v s) T) ∧ (∀ l, l < sl v s → iS ad κ 5 l = oN (hld (dmB v s) (sl v s) T l)) ∧ (∀ l, l < sl v s → T l = true → sew0 v s l = false → ∀ f, dmB v s l f → T f = true) ∧ ∀ l, l < sl v s → sew0 v s l = true → T l = true
theorem X1_release (hi : ∀ a b, ad a = ad b → a = b) (hP : PT ad κ pr tr pa su) {r k : Nat} (hr : r < 11) (hk : k < 6) {v : Nat → Int32} {s x : Nat} {T : Nat → Bool} (h : SV κ (ad (bR r + 14 + 4 * k)) v s) (hG : GR v) (hs : s < nn v 1) (hx : x < sl v s) (hfx : fre (dmB v s) T x = true)
    (hQ0 : QI ad κ (sl v s) (fun l => fre (dmB v s) T l && decide (l ≠ x))) (hH0 : ∀ l, l < sl v s → iS ad κ 5 l = oN (hld (dmB v s) (sl v s) T l)) (hC : ∀ l, l < sl v s → T l = true → sew0 v s l = false → ∀ f, dmB v s l f → T f = true) (hW : ∀ l, l < sl v s → sew0 v s l = true → T l = true) :
    ∃ κ', P_X1_releaseFrom κ (ad 2) (ad (bR r + 14 + 4 * k)) (oN x) = some κ' ∧ Fr ad (fun n => n = 4 ∨ n = 5 ∨ n = 6 ∨ n = 7) κ κ' ∧ FQ ad κ' v s (sb T x) ∧ ∀ j, iS ad κ' 4 j = iS ad κ 4 j := by
  have h16 := (hG.sl16 hs).1
  have hE := hG.E hs
  have hTx := fre_un hfx
  have hxx : ¬ dmB v s x x := fun g => (pb_t.mp hfx).2 ⟨x, g, hTx⟩
  have hdn : ∀ i, dmB v s i x → hld (dmB v s) (sl v s) T i = hld (dmB v s) (sl v s) (sb T x) i + 1 := by
    intro i hd
    refine cn_add (x := x) ?_ ?_ _ hx (fun l _ hl => ?_)
    · simp [sb]
    · rw [pb_t.mpr hd, hTx]; rfl
    · simp [sb, hl]
  have hsm : ∀ i, ¬ dmB v s i x → hld (dmB v s) (sl v s) T i = hld (dmB v s) (sl v s) (sb T x) i := by
    intro i hd
    refine cn_c _ (fun l hl => ?_)
    by_cases e : l = x
    · rw [e, pb_f.mpr hd]; rfl
    · simp [sb, e]
  have L : ∀ (q i f : Nat) (κ1 : jKt), i + q = sl v s → q < f → Fr ad (fun n => n = 5 ∨ n = 6 ∨ n = 7) κ κ1 → QI ad κ1 (sl v s) (fun l => if l < i then fre (dmB v s) (sb T x) l else fre (dmB v s) T l && decide (l ≠ x)) → (∀ l, l < sl v s → iS ad κ1 5 l = oN (if l < i then hld (dmB v s) (sl v s) (sb T x) l else hld (dmB v s) (sl v s) T l)) →
      ∃ κ', P_X1_releaseFrom_2 (ad 2) (ad (bR r + 14 + 4 * k)) (oN x) f κ1 (oN i) = some κ' ∧ Fr ad (fun n => n = 5 ∨ n = 6 ∨ n = 7) κ κ' ∧ QI ad κ' (sl v s) (fre (dmB v s) (sb T x)) ∧ ∀ l, l < sl v s → iS ad κ' 5 l = oN (hld (dmB v s) (sl v s) (sb T x) l) := by
    intro q
    induction q with
    | zero =>
      intro i f κ1 h1 h2 hF hQ hH
      obtain ⟨f, rfl⟩ : ∃ g, f = g + 1 := ⟨f - 1, by omega⟩
      have hv1 : SV κ1 (ad (bR r + 14 + 4 * k)) v s := SV.fr hF hP hr hk (fun i _ => by unfold bR; omega) h
      refine ⟨κ1, ?_, hF, QI_c hQ (fun l hl => if_pos (by omega)), fun l hl => by rw [hH l hl, if_pos (by omega)]⟩
      rw [P_X1_releaseFrom_2, hv1.2.2.2.1, if_pos ((oN_le (by omega) (by omega)).mpr (by omega))]
    | succ q ih =>
      intro i f κ1 h1 h2 hF hQ hH
      obtain ⟨f, rfl⟩ : ∃ g, f = g + 1 := ⟨f - 1, by omega⟩
      have hv1 : SV κ1 (ad (bR r + 14 + 4 * k)) v s := SV.fr hF hP hr hk (fun i _ => by unfold bR; omega) h
      have hp1 := hF.pt hP
      have e1 : (oN i + 1 : Int32) = oN (i + 1) := oN_add i 1
      have hbx := hv1.E i x (by omega) (by omega)
      rw [P_X1_releaseFrom_2, hv1.2.2.2.1, if_neg (fun h => by have := (oN_le (by omega) (by omega)).mp h; omega), X4_hasDemand (by omega) (by omega), bd_s, e1]
      by_cases hd : dmB v s i x
      · rw [if_pos (hbx.mpr hd), if_neg (by decide)]
        have hcnt := hdn i hd
        have hle : hld (dmB v s) (sl v s) T i ≤ 16 := Nat.le_trans (cn_le _ _) h16
        have q5 : kR κ1 (ad 2) 2 = ad 5 := hp1.2.2.1.2.2.1
        have rd : kI κ1 (ad 5) i = oN (hld (dmB v s) (sl v s) T i) := by
          have := hH i (by omega)
          rw [if_neg (by omega)] at this
          exact this
        have e2 : (oN (hld (dmB v s) (sl v s) T i) - 1 : Int32) = oN (hld (dmB v s) (sl v s) (sb T x) i) := by
          rw [show (1 : Int32) = oN 1 from rfl, oN_sub (by omega), hcnt]; rfl
        have F2 : Fr ad (fun n => n = 5 ∨ n = 6 ∨ n = 7) κ (kU κ1 (ad 5) i (.int (oN (hld (dmB v s) (sl v s) (sb T x) i)))) := hF.trans (Fr.U hi (by unfold iSl; omega) (by omega))
        have hv2 : SV (kU κ1 (ad 5) i (.int (oN (hld (dmB v s) (sl v s) (sb T x) i)))) (ad (bR r + 14 + 4 * k)) v s := SV.fr F2 hP hr hk (fun i _ => by unfold bR; omega) h
        have hp2 := F2.pt hP
        have hQ2 : QI ad (kU κ1 (ad 5) i (.int (oN (hld (dmB v s) (sl v s) (sb T x) i)))) (sl v s) (fun l => if l < i then fre (dmB v s) (sb T x) l else fre (dmB v s) T l && decide (l ≠ x)) := QI_k hQ (by rw [iS_U hi, if_neg (by omega)]) (fun j => by rw [iS_U hi, if_neg (by omega)])
        have hH2 : ∀ l, l < sl v s → iS ad (kU κ1 (ad 5) i (.int (oN (hld (dmB v s) (sl v s) (sb T x) i)))) 5 l = oN (if l < i + 1 then hld (dmB v s) (sl v s) (sb T x) l else hld (dmB v s) (sl v s) T l) := by
          intro l hl
          rw [iS_U hi]
          by_cases e : l = i
          · rw [if_pos ⟨rfl, e⟩, e, if_pos (by omega)]
          · rw [if_neg (by omega), hH l hl]
            by_cases g : l < i
            · rw [if_pos g, if_pos (by omega)]
            · rw [if_neg g, if_neg (by omega)]
        have rd2 : kI (kU κ1 (ad 5) i (.int (oN (hld (dmB v s) (sl v s) (sb T x) i)))) (ad 5) i = oN (hld (dmB v s) (sl v s) (sb T x) i) := by
          have := hH2 i (by omega)
          rw [if_pos (by omega)] at this
          exact this
        have hfi : fre (dmB v s) T i = false := by
          cases hy : fre (dmB v s) T i
          · rfl
          · have := ((fre_h hE).mp hy).2; omega
        have skip : fre (dmB v s) (sb T x) i = false → ∃ κ', P_X1_releaseFrom_2 (ad 2) (ad (bR r + 14 + 4 * k)) (oN x) f (kU κ1 (ad 5) i (.int (oN (hld (dmB v s) (sl v s) (sb T x) i)))) (oN (i + 1)) = some κ' ∧ Fr ad (fun n => n = 5 ∨ n = 6 ∨ n = 7) κ κ' ∧ QI ad κ' (sl v s) (fre (dmB v s) (sb T x)) ∧ ∀ l, l < sl v s → iS ad κ' 5 l = oN (hld (dmB v s) (sl v s) (sb T x) l) := by
          intro hno
          refine ih (i + 1) f _ (by omega) (by omega) F2 (QI_c hQ2 (fun l hl => ?_)) hH2
          by_cases e : l = i
          · rw [e, if_neg (by omega), if_pos (by omega), hno, hfi, Bool.false_and]
          · by_cases g : l < i
            · rw [if_pos g, if_pos (by omega)]
            · rw [if_neg g, if_neg (by omega)]
        have q5' : kR (kU κ1 (ad 5) i (.int (oN (hld (dmB v s) (sl v s) (sb T x) i)))) (ad 2) 2 = ad 5 := hp2.2.2.1.2.2.1
        have q6' : kR (kU κ1 (ad 5) i (.int (oN (hld (dmB v s) (sl v s) (sb T x) i)))) (ad 2) 3 = ad 6 := hp2.2.2.1.2.2.2.1
        rw [ck_t ((oN_jin (by omega)).mpr (by omega)), ck_t ((oN_jin (by omega)).mpr (by omega)), oN_ix (by omega), q5, rd, e2, bnd_e, ck_t ((oN_jin (by omega)).mpr (by omega)), q5', rd2]
        by_cases hz : hld (dmB v s) (sl v s) (sb T x) i = 0
        · rw [if_pos (by rw [hz]; rfl), X4_isSewn (by omega), bd_s]
          by_cases hw : sSt (kU κ1 (ad 5) i (.int (oN (hld (dmB v s) (sl v s) (sb T x) i)))) (ad (bR r + 14 + 4 * k)) i = 115
          · rw [if_pos hw, if_neg (by decide)]
            refine skip ?_
            have hTi := hW i (by omega) ((hv2.sewn hG hs i (by omega)).mp hw)
            cases hy : fre (dmB v s) (sb T x) i
            · rfl
            · have := fre_un hy
              unfold sb at this
              rw [hTi] at this
              split at this <;> cases this
          · have hw0 : sew0 v s i = false := by
              cases hy : sew0 v s i
              · rfl
              · exact absurd ((hv2.sewn hG hs i (by omega)).mpr hy) hw
            have hix : i ≠ x := fun e => hxx (by rw [e] at hd; exact hd)
            have hTi : T i = false := by
              cases hy : T i
              · rfl
              · have := hC i (by omega) hy hw0 x hd
                rw [hTx] at this; cases this
            have hfr : fre (dmB v s) (sb T x) i = true := (fre_h hE).mpr ⟨by unfold sb; rw [if_neg hix]; exact hTi, hz⟩
            obtain ⟨κ2, a1, a2, a3⟩ := QI_add hi hp2 hQ2 (x := i) (by rw [if_neg (by omega), hfi, Bool.false_and]) (by omega) h16
            rw [if_neg hw, if_pos rfl, q6', a1, bd_s]
            refine ih (i + 1) f κ2 (by omega) (by omega) (F2.trans (a2.mono (fun n hn => by omega))) (QI_c a3 (fun l hl => ?_)) (fun l hl => ?_)
            · unfold sb
              by_cases e : l = i
              · rw [if_pos e, e, if_pos (by omega)]; exact hfr.symm
              · rw [if_neg e]
                show (if l < i then fre (dmB v s) (sb T x) l else fre (dmB v s) T l && decide (l ≠ x)) = (if l < i + 1 then fre (dmB v s) (sb T x) l else fre (dmB v s) T l && decide (l ≠ x))
                by_cases g : l < i
                · rw [if_pos g, if_pos (by omega)]
                · rw [if_neg g, if_neg (by omega)]
            · rw [a2.i (by omega)]; exact hH2 l hl
        · rw [if_neg (fun g => hz ((oN_z (by omega)).mp g))]
          refine skip ?_
          cases hy : fre (dmB v s) (sb T x) i
          · rfl
          · exact absurd ((fre_h hE).mp hy).2 hz
      · rw [if_neg (fun g => hd (hbx.mp g)), if_pos rfl]
        have hcnt := hsm i hd
        refine ih (i + 1) f κ1 (by omega) (by omega) hF (QI_c hQ (fun l hl => ?_)) (fun l hl => ?_)
        · by_cases e : l = i
          · rw [e, if_neg (by omega), if_pos (by omega)]
            by_cases ex : i = x
            · have : fre (dmB v s) (sb T x) i = false := by
                cases hy : fre (dmB v s) (sb T x) i
                · rfl
                · have := fre_un hy
                  unfold sb at this
                  rw [if_pos ex] at this; cases this
              rw [this, decide_eq_false (fun g => g ex), Bool.and_false]
            · rw [decide_eq_true ex, Bool.and_true]
              apply bool_c
              rw [fre_h hE, fre_h hE, hcnt]
              unfold sb
              rw [if_neg ex]
          · by_cases g : l < i
            · rw [if_pos g, if_pos (by omega)]
            · rw [if_neg g, if_neg (by omega)]
        · rw [hH l hl]
          by_cases e : l = i
          · rw [e, if_neg (by omega), if_pos (by omega), hcnt]
          · by_cases g : l < i
            · rw [if_pos g, if_pos (by omega)]
            · rw [if_neg g, if_neg (by omega)]
  obtain ⟨κ', q1, q2, q3, q4⟩ := L (sl v s) 0 4000 κ (by omega) (by omega) (Fr.refl κ) (QI_c hQ0 (fun l hl => (if_neg (by omega)).symm)) (fun l hl => by rw [hH0 l hl, if_neg (by omega)])
  refine ⟨κ', q1, q2.mono (fun n hn => by omega), ⟨q3, q4, fun l hl hT hw f hf => ?_, fun l hl hw => ?_⟩, fun j => q2.i (by omega) j⟩
  · unfold sb at hT ⊢
    by_cases e : l = x
    · rw [e] at hf
      by_cases e2 : f = x
      · rw [if_pos e2]
      · rw [if_neg e2]
        cases hy : T f
        · exact absurd ⟨f, hf, hy⟩ (pb_t.mp hfx).2
        · rfl
    · rw [if_neg e] at hT
      have := hC l hl hT hw f hf
      rw [this]; split <;> rfl
  · unfold sb
    rw [hW l hl hw]; split <;> rfl
theorem X1_queue (hi : ∀ a b, ad a = ad b → a = b) (hP : PT ad κ pr tr pa su) {r k : Nat} (hr : r < 11) (hk : k < 6) {v : Nat → Int32} {s : Nat} (h : SV κ (ad (bR r + 14 + 4 * k)) v s) (hG : GR v) (hs : s < nn v 1) :
    ∃ κ', P_X1_findByQueue κ (ad 2) (ad (bR r + 14 + 4 * k)) = some (oN (ordS v s).length, κ') ∧ Fr ad (fun n => n = 4 ∨ n = 5 ∨ n = 6 ∨ n = 7) κ κ' ∧ lst (iS ad κ' 4) 0 (ordS v s) := by
  have h16 := (hG.sl16 hs).1
  have hlen : left0 v s ≤ 16 := by have := cn_le (fun l => !sew0 v s l) (sl v s); unfold left0; omega
  obtain ⟨κ0, z1, z2, z3, z4⟩ := X1_queueFree hi hP hr hk h hG hs
  have L : ∀ (q f c i : Nat) (κ1 : jKt) (T : Nat → Bool), Fr ad (fun n => n = 4 ∨ n = 5 ∨ n = 6 ∨ n = 7) κ κ1 → FQ ad κ1 v s T → i + q = left0 v s → c + q ≤ 16 → q < f →
      ∃ κ', P_X1_findByQueue_15 (ad 2) (ad (bR r + 14 + 4 * k)) (oN (left0 v s)) f κ1 (oN c) (oN i) = some (oN (c + (ord (sl v s) (dmB v s) q T).length), κ') ∧ Fr ad (fun n => n = 4 ∨ n = 5 ∨ n = 6 ∨ n = 7) κ κ' ∧ (∀ j, j < c → iS ad κ' 4 j = iS ad κ1 4 j) ∧ lst (iS ad κ' 4) c (ord (sl v s) (dmB v s) q T) := by
    intro q
    induction q with
    | zero =>
      intro f c i κ1 T hF hQ h1 h2 h3
      obtain ⟨f, rfl⟩ : ∃ g, f = g + 1 := ⟨f - 1, by omega⟩
      refine ⟨κ1, ?_, hF, fun _ _ => rfl, fun t ht => by cases ht⟩
      rw [P_X1_findByQueue_15, if_pos ((oN_le (by omega) (by omega)).mpr (by omega))]
      rfl
    | succ q ih =>
      intro f c i κ1 T hF hQ h1 h2 h3
      obtain ⟨f, rfl⟩ : ∃ g, f = g + 1 := ⟨f - 1, by omega⟩
      have hp1 := hF.pt hP
      have q3 : kR κ1 (ad 2) 3 = ad 6 := hp1.2.2.1.2.2.2.1
      have e1 : (oN i + 1 : Int32) = oN (i + 1) := oN_add i 1
      have e2 : (oN c + 1 : Int32) = oN (c + 1) := oN_add c 1
      obtain ⟨g1, g2, g3, g4⟩ := hQ
      have ht := QI_take hi hp1 g1 h16
      rw [P_X1_findByQueue_15, if_neg (fun h => by have := (oN_le (by omega) (by omega)).mp h; omega), q3, ord]
      cases hx : nxF (fre (dmB v s) T) 0 (sl v s) with
      | none =>
        rw [hx] at ht
        refine ⟨κ1, ?_, hF, fun _ _ => rfl, fun t ht => by cases ht⟩
        rw [show P_X3_takeLowest κ1 (ad 6) = some (-1, κ1) from ht, bd2_s, if_pos rfl]
        rfl
      | some x =>
        obtain ⟨-, x1, x2, -⟩ := (nxF_some _ _ _).mp hx
        rw [hx] at ht
        obtain ⟨κ2, t1, t2, t3⟩ := ht
        have F2 : Fr ad (fun n => n = 4 ∨ n = 5 ∨ n = 6 ∨ n = 7) κ κ2 := hF.trans (t2.mono (fun n hn => by omega))
        have q4 : kR κ2 (ad 2) 1 = ad 4 := (F2.pt hP).2.2.1.2.1
        have F3 : Fr ad (fun n => n = 4 ∨ n = 5 ∨ n = 6 ∨ n = 7) κ (kU κ2 (ad 4) c (.int (oN x))) := F2.trans (Fr.U hi (by unfold iSl; omega) (by omega))
        have hv3 : SV (kU κ2 (ad 4) c (.int (oN x))) (ad (bR r + 14 + 4 * k)) v s := SV.fr F3 hP hr hk (fun i _ => by unfold bR; omega) h
        obtain ⟨κ3, r1, r2, r3, r4⟩ := X1_release hi (F3.pt hP) hr hk hv3 hG hs (by omega) x2 (QI_k t3 (by rw [iS_U hi, if_neg (by omega)]) (fun j => by rw [iS_U hi, if_neg (by omega)])) (fun l hl => by rw [iS_U hi, if_neg (by omega), t2.i (by omega)]; exact g2 l hl) g3 g4
        obtain ⟨κ', q1, q2, q5, q6⟩ := ih f (c + 1) (i + 1) κ3 (sb T x) (F3.trans r2) r3 (by omega) (by omega) (by omega)
        refine ⟨κ', ?_, q2, fun j hj => ?_, ?_⟩
        · rw [t1, bd2_s, if_neg (fun g => by have := oN_nneg (n := x) (by omega); rw [g] at this; exact this (by decide)), ck_t ((oN_jin (by omega)).mpr (by omega)), oN_ix (by omega), bnd_e, q4, r1, bd_s, e1, e2, q1]
          simp only [List.length_cons]
          congr 3
          omega
        · rw [q5 j (by omega), r4, iS_U hi, if_neg (by omega), t2.i (by omega)]
        · refine lst_cons ?_ q6
          rw [q5 c (by omega), r4, iS_U hi, if_pos ⟨rfl, rfl⟩]
  obtain ⟨κ', q1, q2, -, q4⟩ := L (left0 v s) 4000 0 0 κ0 (sew0 v s) z2 ⟨z3, z4, fun l hl hT hw => (by rw [hT] at hw; cases hw), fun l hl hw => hw⟩ (by omega) (by omega) (by omega)
  have hv0 : SV κ0 (ad (bR r + 14 + 4 * k)) v s := SV.fr z2 hP hr hk (fun i _ => by unfold bR; omega) h
  refine ⟨κ', ?_, q2, q4⟩
  unfold P_X1_findByQueue
  rw [z1, bd_s, hv0.unsewn hG hs, bd_s]
  rw [Nat.zero_add] at q1
  exact q1
theorem X1_agree (hi : ∀ a b, ad a = ad b → a = b) (hP : PT ad κ pr tr pa su) {r k : Nat} (hr : r < 11) (hk : k < 6) {v : Nat → Int32} {s : Nat} (h : SV κ (ad (bR r + 14 + 4 * k)) v s) (hG : GR v) (hs : s < nn v 1) :
    ∃ κ', P_X1_bothWaysAgree κ (ad 2) (ad (bR r + 14 + 4 * k)) = some (1, κ') ∧ Fr ad (fun n => n = 3 ∨ n = 4 ∨ n = 5 ∨ n = 6 ∨ n = 7) κ κ' := by
  have h16 := (hG.sl16 hs).1
  obtain ⟨κ1, a1, a2, a3⟩ := X1_scan hi hP hr hk h hG hs
  have hv1 : SV κ1 (ad (bR r + 14 + 4 * k)) v s := SV.fr a2 hP hr hk (fun i _ => by unfold bR; omega) h
  obtain ⟨κ2, b1, b2, b3⟩ := X1_queue hi (a2.pt hP) hr hk hv1 hG hs
  have F2 : Fr ad (fun n => n = 3 ∨ n = 4 ∨ n = 5 ∨ n = 6 ∨ n = 7) κ κ2 := (a2.mono (fun n hn => by omega)).trans (b2.mono (fun n hn => by omega))
  have hlen : (ordS v s).length ≤ 16 := by
    have h1 := ord_len (n := sl v s) (E := dmB v s) (left0 v s) (sew0 v s)
    have h2 := cn_le (fun l => !sew0 v s l) (sl v s)
    unfold ordS
    unfold left0 at h1 ⊢
    omega
  have L : ∀ (q i f : Nat), i + q = (ordS v s).length → q < f → P_X1_bothWaysAgree_19 (ad 2) (oN (ordS v s).length) f κ2 (oN i) = some (1, κ2) := by
    intro q
    induction q with
    | zero =>
      intro i f h1 h2
      obtain ⟨f, rfl⟩ : ∃ g, f = g + 1 := ⟨f - 1, by omega⟩
      rw [P_X1_bothWaysAgree_19, if_pos ((oN_le (by omega) (by omega)).mpr (by omega))]
    | succ q ih =>
      intro i f h1 h2
      obtain ⟨f, rfl⟩ : ∃ g, f = g + 1 := ⟨f - 1, by omega⟩
      have e1 : (oN i + 1 : Int32) = oN (i + 1) := oN_add i 1
      have p2 := F2.pt hP
      have q0 : kR κ2 (ad 2) 0 = ad 3 := p2.2.2.1.1
      have q1 : kR κ2 (ad 2) 1 = ad 4 := p2.2.2.1.2.1
      have v0 : kI κ2 (ad 3) i = kI κ2 (ad 4) i := by
        have c1 := a3 i (by omega)
        have c2 := b3 i (by omega)
        rw [Nat.zero_add] at c1 c2
        have c3 := b2.i (n := 3) (by omega) i
        show iS ad κ2 3 i = iS ad κ2 4 i
        rw [c3, c1, c2]
      rw [P_X1_bothWaysAgree_19, if_neg (fun h => by have := (oN_le (by omega) (by omega)).mp h; omega), ck_t ((oN_jin (by omega)).mpr (by omega)), ck_t ((oN_jin (by omega)).mpr (by omega)), oN_ix (by omega), q0, q1, v0, if_pos rfl, e1]
      exact ih _ _ (by omega) (by omega)
  refine ⟨κ2, ?_, F2⟩
  unfold P_X1_bothWaysAgree
  rw [a1, bd2_s, b1, bd2_s, if_pos rfl]
  exact L (ordS v s).length 0 4000 (by omega) (by omega)
end QUEUE
