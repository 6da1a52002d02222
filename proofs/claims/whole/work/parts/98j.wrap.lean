/-! ===== layer 3: the model's half of the state; its changes begin and end ===== -/
def MH (ad : Nat → Nat) (κ : jKt) (v : Nat → Int32) (ch : Nat) (ps : Nat → Nat → Int32) (hs : Int32) (sv : Nat → Int32) : Prop :=
  (∀ j, iS ad κ 21 j = v j) ∧ iS ad κ 20 1 = oN ch ∧ (∀ i, i < ch → ∀ j, j < 457 → iS ad κ 24 (457 * i + j) = ps i j) ∧ iS ad κ 20 4 = hs ∧ (hs ≠ 0 → ∀ j, j < 457 → iS ad κ 23 j = sv j)
/-- what a change may touch of the model -/
def FMd (ad : Nat → Nat) (κ κ' : jKt) : Prop := ∀ n j, ¬ (21 ≤ n ∧ n ≤ 24) → ¬ (n = 20 ∧ (j = 0 ∨ j = 1)) → κ' (ad n) j = κ (ad n) j
section WRAP
variable {ad : Nat → Nat} {κ κ1 κ2 : jKt} {pr tr : Nat} {pa : Nat → Nat} {su : Nat → Nat → Nat} {v : Nat → Int32}
theorem FMd.trans (h : FMd ad κ κ1) (g : FMd ad κ1 κ2) : FMd ad κ κ2 := fun n j a b => (g n j a b).trans (h n j a b)
theorem FMd.U (hi : ∀ a b, ad a = ad b → a = b) {n j : Nat} {w : Value} (h : (21 ≤ n ∧ n ≤ 24) ∨ (n = 20 ∧ (j = 0 ∨ j = 1))) : FMd ad κ (kU κ (ad n) j w) := by
  intro a b h1 h2
  unfold kU
  rw [if_neg (fun g => ?_)]
  have e := hi _ _ g.1
  omega
theorem FM.md (h : FM ad κ κ1) : FMd ad κ κ1 := fun n j a b => h n j (by omega) (by omega)
theorem iSl_20 {j : Nat} (h : j < 5 ∨ 16 ≤ j) : iSl 20 j := Or.inr (Or.inr (Or.inr (Or.inr (Or.inl ⟨rfl, h⟩))))
theorem iSl_21 {n : Nat} (j : Nat) (h : 21 ≤ n ∧ n ≤ 41) : iSl n j := Or.inr (Or.inr (Or.inr (Or.inr (Or.inr (Or.inl h)))))
theorem FMd.pt (h : FMd ad κ κ1) (hP : PT ad κ pr tr pa su) : PT ad κ1 pr tr pa su := PT_K hP (fun b k hb => by
  unfold kR
  rw [h b k (fun g => hb (iSl_21 k ⟨g.1, by omega⟩)) (fun g => hb (by rw [g.1]; exact iSl_20 (by omega)))])
theorem FMd.i (h : FMd ad κ κ1) {n j : Nat} (h1 : ¬ (21 ≤ n ∧ n ≤ 24)) (h2 : ¬ (n = 20 ∧ (j = 0 ∨ j = 1))) : iS ad κ1 n j = iS ad κ n j := by
  unfold iS kI
  rw [h n j h1 h2]
/-- one row is laid into another -/
theorem X7_lays (hi : ∀ a b, ad a = ad b → a = b) {a b : Nat} (ha : 21 ≤ a ∧ a ≤ 23) (hab : a ≠ b) :
    ∃ κ', P_X7_lays κ (ad a) (ad b) = some κ' ∧ (∀ j, iS ad κ' a j = if j < 457 then iS ad κ b j else iS ad κ a j) ∧ ∀ n j, n ≠ a → κ' (ad n) j = κ (ad n) j := by
  have L : ∀ (q i f : Nat) (κ1 : jKt), i + q = 457 → q < f → (∀ j, iS ad κ1 a j = if j < i then iS ad κ b j else iS ad κ a j) → (∀ n j, n ≠ a → κ1 (ad n) j = κ (ad n) j) →
      ∃ κ', P_X7_lays_2 (ad a) (ad b) f κ1 (oN i) = some κ' ∧ (∀ j, iS ad κ' a j = if j < 457 then iS ad κ b j else iS ad κ a j) ∧ ∀ n j, n ≠ a → κ' (ad n) j = κ (ad n) j := by
    intro q
    induction q with
    | zero =>
      intro i f κ1 g1 g2 h1 h2
      obtain ⟨f, rfl⟩ : ∃ g, f = g + 1 := ⟨f - 1, by omega⟩
      have ei : i = 457 := by omega
      subst ei
      exact ⟨κ1, by rw [P_X7_lays_2, if_pos (by decide)], h1, h2⟩
    | succ q ih =>
      intro i f κ1 g1 g2 h1 h2
      obtain ⟨f, rfl⟩ : ∃ g, f = g + 1 := ⟨f - 1, by omega⟩
      have e1 : (oN i + 1 : Int32) = oN (i + 1) := oN_add i 1
      have rb : kI κ1 (ad b) i = iS ad κ b i := by unfold kI iS kI; rw [h2 b i (fun e => hab e.symm)]
      rw [P_X7_lays_2, if_neg (by rw [show (457 : Int32) = oN 457 from rfl]; exact fun h => by have := (oN_le (by omega) (by omega)).mp h; omega), ck_t ((oN_jin (by omega)).mpr (by omega)), ck_t ((oN_jin (by omega)).mpr (by omega)), oN_ix (by omega), rb, bnd_e, e1]
      refine ih (i + 1) f _ (by omega) (by omega) (fun j => ?_) (fun n j hn => ?_)
      · rw [iS_U hi]
        by_cases e : j = i
        · rw [if_pos ⟨rfl, e⟩, if_pos (by omega), e]
        · rw [if_neg (fun g => e g.2), h1 j]
          by_cases e2 : j < i
          · rw [if_pos e2, if_pos (by omega)]
          · rw [if_neg e2, if_neg (by omega)]
      · unfold kU
        rw [if_neg (fun g => hn (hi _ _ g.1))]
        exact h2 n j hn
  unfold P_X7_lays
  exact L 457 0 4000 κ (by omega) (by omega) (fun j => by rw [if_neg (by omega)]) (fun _ _ _ => rfl)
theorem X7_begins (hi : ∀ a b, ad a = ad b → a = b) (hP : PT ad κ pr tr pa su) : ∃ κ', P_X7_begins κ (ad 20) = some κ' ∧ iS ad κ' 20 0 = 0 ∧ (∀ j, j < 457 → iS ad κ' 22 j = iS ad κ 21 j) ∧ (∀ n j, n ≠ 22 → ¬ (n = 20 ∧ j = 0) → κ' (ad n) j = κ (ad n) j) := by
  have f1 : FMd ad κ (kU κ (ad 20) 0 (.int 0)) := FMd.U hi (by omega)
  have hP1 := f1.pt hP
  have p5 : kR (kU κ (ad 20) 0 (.int 0)) (ad 20) 5 = ad 21 := hP1.p5
  have p6 : kR (kU κ (ad 20) 0 (.int 0)) (ad 20) 6 = ad 22 := hP1.2.2.2.2.1 1 (by omega)
  obtain ⟨κ', q1, q2, q3⟩ := X7_lays (κ := kU κ (ad 20) 0 (.int 0)) (a := 22) (b := 21) hi (by omega) (by omega)
  refine ⟨κ', ?_, ?_, fun j hj => ?_, fun n j n1 n2 => ?_⟩
  · unfold P_X7_begins
    rw [bnd_e, p5, p6, q1, bd_s]
  · have : iS ad κ' 20 0 = iS ad (kU κ (ad 20) 0 (.int 0)) 20 0 := by unfold iS kI; rw [q3 20 0 (by omega)]
    rw [this, iS_U hi, if_pos ⟨rfl, rfl⟩]
  · rw [q2 j, if_pos hj, iS_U hi, if_neg (by omega)]
  · rw [q3 n j n1]
    unfold kU
    rw [if_neg (fun g => n2 ⟨hi _ _ g.1, g.2⟩)]
/-- the past gets the row before -/
theorem X7_ends72 (hi : ∀ a b, ad a = ad b → a = b) (hP : PT ad κ pr tr pa su) {ch : Nat} (hch : ch < 8) (h1 : iS ad κ 20 1 = oN ch) (y : Int32) :
    ∃ κ', P_X7_ends_72 (ad 20) y 4000 κ 0 = some (y, κ') ∧ iS ad κ' 20 1 = oN (ch + 1) ∧ (∀ j, iS ad κ' 24 j = if 457 * ch ≤ j ∧ j < 457 * ch + 457 then iS ad κ 22 (j - 457 * ch) else iS ad κ 24 j) ∧ ∀ n j, n ≠ 24 → ¬ (n = 20 ∧ j = 1) → κ' (ad n) j = κ (ad n) j := by
  have L : ∀ (q i f : Nat) (κ1 : jKt), i + q = 457 → q < f → PT ad κ1 pr tr pa su → (∀ j, iS ad κ1 24 j = if 457 * ch ≤ j ∧ j < 457 * ch + i then iS ad κ 22 (j - 457 * ch) else iS ad κ 24 j) → (∀ n j, n ≠ 24 → κ1 (ad n) j = κ (ad n) j) →
      ∃ κ', P_X7_ends_72 (ad 20) y f κ1 (oN i) = some (y, κ') ∧ iS ad κ' 20 1 = oN (ch + 1) ∧ (∀ j, iS ad κ' 24 j = if 457 * ch ≤ j ∧ j < 457 * ch + 457 then iS ad κ 22 (j - 457 * ch) else iS ad κ 24 j) ∧ ∀ n j, n ≠ 24 → ¬ (n = 20 ∧ j = 1) → κ' (ad n) j = κ (ad n) j := by
    intro q
    induction q with
    | zero =>
      intro i f κ1 g1 g2 hP1 h2 h3
      obtain ⟨f, rfl⟩ : ∃ g, f = g + 1 := ⟨f - 1, by omega⟩
      have ei : i = 457 := by omega
      subst ei
      have e1 : (oN ch + 1 : Int32) = oN (ch + 1) := oN_add ch 1
      have r1 : kI κ1 (ad 20) 1 = oN ch := by unfold kI; rw [h3 20 1 (by omega)]; exact h1
      refine ⟨_, by rw [P_X7_ends_72, if_pos (by decide), r1, e1, bnd_e], by rw [iS_U hi, if_pos ⟨rfl, rfl⟩], fun j => by rw [iS_U hi, if_neg (by omega)]; exact h2 j, fun n j n1 n2 => ?_⟩
      unfold kU
      rw [if_neg (fun g => n2 ⟨hi _ _ g.1, g.2⟩)]
      exact h3 n j n1
    | succ q ih =>
      intro i f κ1 g1 g2 hP1 h2 h3
      obtain ⟨f, rfl⟩ : ∃ g, f = g + 1 := ⟨f - 1, by omega⟩
      have e1 : (oN i + 1 : Int32) = oN (i + 1) := oN_add i 1
      have r1 : kI κ1 (ad 20) 1 = oN ch := by unfold kI; rw [h3 20 1 (by omega)]; exact h1
      have em : (oN ch * 457 + oN i : Int32) = oN (457 * ch + i) := by rw [show (457 : Int32) = oN 457 from rfl, oN_mul, oN_add, Nat.mul_comm]
      have p8 : kR κ1 (ad 20) 8 = ad 24 := hP1.2.2.2.2.1 3 (by omega)
      have p6 : kR κ1 (ad 20) 6 = ad 22 := hP1.2.2.2.2.1 1 (by omega)
      have rb : kI κ1 (ad 22) i = iS ad κ 22 i := by unfold kI iS kI; rw [h3 22 i (by omega)]
      rw [P_X7_ends_72, if_neg (by rw [show (457 : Int32) = oN 457 from rfl]; exact fun h => by have := (oN_le (by omega) (by omega)).mp h; omega), r1, em, ck_t ((oN_jin (by omega)).mpr (by omega)), ck_t ((oN_jin (by omega)).mpr (by omega)), oN_ix (by omega), oN_ix (by omega), p8, p6, rb, bnd_e, e1]
      refine ih (i + 1) f _ (by omega) (by omega) (PT_U hi hP1 (iSl_21 _ (by omega))) (fun j => ?_) (fun n j hn => ?_)
      · rw [iS_U hi]
        by_cases e : j = 457 * ch + i
        · rw [if_pos ⟨rfl, e⟩, if_pos (by omega), e, show 457 * ch + i - 457 * ch = i by omega]
        · rw [if_neg (fun g => e g.2), h2 j]
          by_cases e2 : 457 * ch ≤ j ∧ j < 457 * ch + i
          · rw [if_pos e2, if_pos (by omega)]
          · rw [if_neg e2, if_neg (by omega)]
      · unfold kU
        rw [if_neg (fun g => hn (hi _ _ g.1))]
        exact h3 n j hn
  exact L 457 0 4000 κ (by omega) (by omega) hP (fun j => by rw [if_neg (by omega)]) (fun _ _ _ => rfl)
theorem X7_ends31 (hi : ∀ a b, ad a = ad b → a = b) (hP : PT ad κ pr tr pa su) (h1 : iS ad κ 20 1 = oN 8) (y : Int32) :
    ∃ κ1, P_X7_ends_31 (ad 20) y 4000 κ 0 = P_X7_ends_72 (ad 20) y 4000 κ1 0 ∧ iS ad κ1 20 1 = oN 7 ∧ (∀ j, iS ad κ1 24 j = if j < 3199 then iS ad κ 24 (j + 457) else iS ad κ 24 j) ∧ ∀ n j, n ≠ 24 → ¬ (n = 20 ∧ j = 1) → κ1 (ad n) j = κ (ad n) j := by
  have L : ∀ (q i f : Nat) (κ1 : jKt), i + q = 3199 → q < f → PT ad κ1 pr tr pa su → (∀ j, iS ad κ1 24 j = if j < i then iS ad κ 24 (j + 457) else iS ad κ 24 j) → (∀ n j, n ≠ 24 → κ1 (ad n) j = κ (ad n) j) →
      ∃ κ2, P_X7_ends_31 (ad 20) y f κ1 (oN i) = P_X7_ends_72 (ad 20) y 4000 κ2 0 ∧ iS ad κ2 20 1 = oN 7 ∧ (∀ j, iS ad κ2 24 j = if j < 3199 then iS ad κ 24 (j + 457) else iS ad κ 24 j) ∧ ∀ n j, n ≠ 24 → ¬ (n = 20 ∧ j = 1) → κ2 (ad n) j = κ (ad n) j := by
    intro q
    induction q with
    | zero =>
      intro i f κ1 g1 g2 hP1 h2 h3
      obtain ⟨f, rfl⟩ : ∃ g, f = g + 1 := ⟨f - 1, by omega⟩
      have ei : i = 3199 := by omega
      subst ei
      have r1 : kI κ1 (ad 20) 1 = oN 8 := by unfold kI; rw [h3 20 1 (by omega)]; exact h1
      have e1 : (oN 8 - 1 : Int32) = oN 7 := rfl
      refine ⟨_, by rw [P_X7_ends_31, if_pos (by decide), r1, e1, bnd_e], by rw [iS_U hi, if_pos ⟨rfl, rfl⟩], fun j => by rw [iS_U hi, if_neg (by omega)]; exact h2 j, fun n j n1 n2 => ?_⟩
      unfold kU
      rw [if_neg (fun g => n2 ⟨hi _ _ g.1, g.2⟩)]
      exact h3 n j n1
    | succ q ih =>
      intro i f κ1 g1 g2 hP1 h2 h3
      obtain ⟨f, rfl⟩ : ∃ g, f = g + 1 := ⟨f - 1, by omega⟩
      have e1 : (oN i + 1 : Int32) = oN (i + 1) := oN_add i 1
      have em : (oN i + 457 : Int32) = oN (i + 457) := oN_add i 457
      have p8 : kR κ1 (ad 20) 8 = ad 24 := hP1.2.2.2.2.1 3 (by omega)
      have rb : kI κ1 (ad 24) (i + 457) = iS ad κ 24 (i + 457) := by
        have := h2 (i + 457)
        rw [if_neg (by omega)] at this
        exact this
      rw [P_X7_ends_31, if_neg (by rw [show (3199 : Int32) = oN 3199 from rfl]; exact fun h => by have := (oN_le (by omega) (by omega)).mp h; omega), em, ck_t ((oN_jin (by omega)).mpr (by omega)), ck_t ((oN_jin (by omega)).mpr (by omega)), oN_ix (by omega), oN_ix (by omega), p8, rb, bnd_e, e1]
      refine ih (i + 1) f _ (by omega) (by omega) (PT_U hi hP1 (iSl_21 _ (by omega))) (fun j => ?_) (fun n j hn => ?_)
      · rw [iS_U hi]
        by_cases e : j = i
        · rw [if_pos ⟨rfl, e⟩, if_pos (by omega), e]
        · rw [if_neg (fun g => e g.2), h2 j]
          by_cases e2 : j < i
          · rw [if_pos e2, if_pos (by omega)]
          · rw [if_neg e2, if_neg (by omega)]
      · unfold kU
        rw [if_neg (fun g => hn (hi _ _ g.1))]
        exact h3 n j hn
  exact L 3199 0 4000 κ (by omega) (by omega) hP (fun j => by rw [if_neg (by omega)]) (fun _ _ _ => rfl)
theorem thk_ne (k : Nat) (e : Int32) : thk k e ≠ 0 := by
  unfold thk
  split <;> (repeat' split) <;> decide
theorem bd2_bd {α β γ δ : Type} (x : Option α) (g : α → Option (β × γ)) (h : β → γ → Option δ) : (bd x fun y => bd2 (g y) h) = bd2 (bd x g) h := by
  cases x <;> rfl
/-- how the model's change ends, when thrown stands at 0 -/
theorem X7_ends0 (hi : ∀ a b, ad a = ad b → a = b) (hP : PT ad κ pr tr pa su) {ch : Nat} (hch : ch ≤ 8) {ps : Nat → Nat → Int32} {hs : Int32} {sv v0 : Nat → Int32} (h0 : iS ad κ 20 0 = 0) (hM : MH ad κ v ch ps hs sv) (hb : ∀ j, j < 457 → iS ad κ 22 j = v0 j) (y : Int32) :
    ∃ κ', P_X7_ends κ (ad 20) y = some (y, κ') ∧ iS ad κ' 20 0 = 0 ∧ MH ad κ' v (chN ch) (psN ps ch v0) hs sv ∧ FMd ad κ κ' := by
  obtain ⟨m1, m2, m3, m4, m5⟩ := hM
  have r0 : kI κ (ad 20) 0 = 0 := h0
  have r1 : kI κ (ad 20) 1 = oN ch := m2
  unfold P_X7_ends
  rw [r0, if_pos rfl, r1]
  by_cases e : ch = 8
  · subst e
    obtain ⟨κ1, a1, a2, a3, a4⟩ := X7_ends31 hi hP m2 y
    have f1 : FMd ad κ κ1 := fun n j n1 n2 => a4 n j (by omega) (by omega)
    obtain ⟨κ2, b1, b2, b3, b4⟩ := X7_ends72 (ch := 7) hi (f1.pt hP) (by omega) a2 y
    have F : ∀ n j, n ≠ 24 → ¬ (n = 20 ∧ j = 1) → κ2 (ad n) j = κ (ad n) j := fun n j n1 n2 => (b4 n j n1 n2).trans (a4 n j n1 n2)
    have Fi : ∀ n j, n ≠ 24 → ¬ (n = 20 ∧ j = 1) → iS ad κ2 n j = iS ad κ n j := fun n j n1 n2 => by unfold iS kI; rw [F n j n1 n2]
    rw [if_pos (show oN 8 = 8 from rfl), a1]
    refine ⟨κ2, b1, by rw [Fi _ _ (by omega) (by omega)]; exact h0, ⟨fun j => by rw [Fi _ _ (by omega) (by omega)]; exact m1 j, by unfold chN; rw [if_pos rfl]; exact b2, fun i hic j hj => ?_, by rw [Fi _ _ (by omega) (by omega)]; exact m4, fun z j hj => by rw [Fi _ _ (by omega) (by omega)]; exact m5 z j hj⟩, fun n j n1 n2 => F n j (by omega) (by omega)⟩
    unfold chN at hic
    rw [if_pos rfl] at hic
    unfold psN
    rw [if_pos rfl, b3]
    by_cases z : i < 7
    · rw [if_neg (by omega), if_pos z, a3, if_pos (by omega), show 457 * i + j + 457 = 457 * (i + 1) + j by omega]
      exact m3 (i + 1) (by omega) j hj
    · rw [if_pos (by omega), if_neg z, show 457 * i + j - 457 * 7 = j by omega, ← hb j hj]
      unfold iS kI
      rw [a4 22 j (by omega) (by omega)]
  · obtain ⟨κ2, b1, b2, b3, b4⟩ := X7_ends72 hi hP (by omega) m2 y
    have Fi : ∀ n j, n ≠ 24 → ¬ (n = 20 ∧ j = 1) → iS ad κ2 n j = iS ad κ n j := fun n j n1 n2 => by unfold iS kI; rw [b4 n j n1 n2]
    rw [if_neg (by rw [show (8 : Int32) = oN 8 from rfl]; exact fun z => e ((oN_eq (by omega) (by omega)).mp z))]
    refine ⟨κ2, b1, by rw [Fi _ _ (by omega) (by omega)]; exact h0, ⟨fun j => by rw [Fi _ _ (by omega) (by omega)]; exact m1 j, by unfold chN; rw [if_neg e]; exact b2, fun i hic j hj => ?_, by rw [Fi _ _ (by omega) (by omega)]; exact m4, fun z j hj => by rw [Fi _ _ (by omega) (by omega)]; exact m5 z j hj⟩, fun n j n1 n2 => b4 n j (by omega) (by omega)⟩
    unfold chN at hic
    rw [if_neg e] at hic
    unfold psN
    rw [if_neg e, b3]
    by_cases z : i = ch
    · rw [if_pos (by rw [z]; omega), if_pos z, z, show 457 * ch + j - 457 * ch = j by omega]
      exact hb j hj
    · rw [if_neg (by omega), if_neg z]
      exact m3 i (by omega) j hj
/-- how it ends, when something is thrown: the row is as before -/
theorem X7_endsE (hi : ∀ a b, ad a = ad b → a = b) (hP : PT ad κ pr tr pa su) {ch : Nat} {ps : Nat → Nat → Int32} {hs : Int32} {sv v0 : Nat → Int32} (h0 : iS ad κ 20 0 ≠ 0) (hM : MH ad κ v ch ps hs sv) (hb : ∀ j, j < 457 → iS ad κ 22 j = v0 j) (hb2 : ∀ j, 457 ≤ j → v j = v0 j) (y : Int32) :
    ∃ κ', P_X7_ends κ (ad 20) y = some (0, κ') ∧ iS ad κ' 20 0 = iS ad κ 20 0 ∧ MH ad κ' v0 ch ps hs sv ∧ FMd ad κ κ' := by
  obtain ⟨m1, m2, m3, m4, m5⟩ := hM
  have r0 : kI κ (ad 20) 0 ≠ 0 := h0
  have p5 : kR κ (ad 20) 5 = ad 21 := hP.p5
  have p6 : kR κ (ad 20) 6 = ad 22 := hP.2.2.2.2.1 1 (by omega)
  obtain ⟨κ', q1, q2, q3⟩ := X7_lays (κ := κ) (a := 21) (b := 22) hi (by omega) (by omega)
  have Fi : ∀ n j, n ≠ 21 → iS ad κ' n j = iS ad κ n j := fun n j n1 => by unfold iS kI; rw [q3 n j n1]
  unfold P_X7_ends
  rw [if_neg r0, p5, p6, q1, bd_s]
  refine ⟨κ', rfl, Fi _ _ (by omega), ⟨fun j => ?_, by rw [Fi _ _ (by omega)]; exact m2, fun i hic j hj => by rw [Fi _ _ (by omega)]; exact m3 i hic j hj, by rw [Fi _ _ (by omega)]; exact m4, fun z j hj => by rw [Fi _ _ (by omega)]; exact m5 z j hj⟩, fun n j n1 n2 => q3 n j (by omega)⟩
  rw [q2 j]
  by_cases e : j < 457
  · rw [if_pos e]; exact hb j e
  · rw [if_neg e, m1 j]; exact hb2 j (by omega)
/-- the model's change as a whole -/
theorem X7_wrap (hi : ∀ a b, ad a = ad b → a = b) (hP : PT ad κ pr tr pa su) {ch : Nat} (hch : ch ≤ 8) {ps : Nat → Nat → Int32} {hs : Int32} {sv : Nat → Int32} (hM : MH ad κ v ch ps hs sv) {k : Nat} {res : oR} (f : jKt → Option (Int32 × jKt))
    (hf : ∀ κ1, PT ad κ1 pr tr pa su → (∀ j, iS ad κ1 21 j = v j) → ∃ r κ', f κ1 = some (r, κ') ∧ MO ad κ1 κ' k v res r) :
    ∃ y κ', (bd (P_X7_begins κ (ad 20)) fun κ18 => bd2 (f κ18) fun y20 κ21 => bd2 (P_X7_ends κ21 (ad 20) y20) fun y κ => some (y, κ)) = some (y, κ') ∧ FMd ad κ κ' ∧ match res with
      | .ok (x, v') => y = x ∧ iS ad κ' 20 0 = 0 ∧ MH ad κ' v' (chN ch) (psN ps ch v) hs sv
      | .error e => iS ad κ' 20 0 = thk k e ∧ MH ad κ' v ch ps hs sv := by
  obtain ⟨m1, m2, m3, m4, m5⟩ := hM
  obtain ⟨κ1, a1, a2, a3, a4⟩ := X7_begins hi hP
  have f1 : FMd ad κ κ1 := fun n j n1 n2 => a4 n j (by omega) (by omega)
  have I1 : ∀ n j, n ≠ 22 → ¬ (n = 20 ∧ j = 0) → iS ad κ1 n j = iS ad κ n j := fun n j n1 n2 => by unfold iS kI; rw [a4 n j n1 n2]
  have hP1 := f1.pt hP
  obtain ⟨r, κ2, b1, b2, b3⟩ := hf κ1 hP1 (fun j => by rw [I1 _ _ (by omega) (by omega)]; exact m1 j)
  have hP2 := b2.md.pt hP1
  have I2 : ∀ n j, n ≠ 21 → ¬ (n = 20 ∧ j = 0) → iS ad κ2 n j = iS ad κ1 n j := fun n j n1 n2 => b2.i n1 n2
  have hb : ∀ j, j < 457 → iS ad κ2 22 j = v j := fun j hj => by rw [I2 _ _ (by omega) (by omega), a3 j hj]; exact m1 j
  have mk : ∀ w, (∀ j, iS ad κ2 21 j = w j) → MH ad κ2 w ch ps hs sv := fun w hw => ⟨hw, by rw [I2 _ _ (by omega) (by omega), I1 _ _ (by omega) (by omega)]; exact m2, fun i hic j hj => by rw [I2 _ _ (by omega) (by omega), I1 _ _ (by omega) (by omega)]; exact m3 i hic j hj, by rw [I2 _ _ (by omega) (by omega), I1 _ _ (by omega) (by omega)]; exact m4, fun z j hj => by rw [I2 _ _ (by omega) (by omega), I1 _ _ (by omega) (by omega)]; exact m5 z j hj⟩
  rw [a1, bd_s, b1, bd2_s]
  cases res with
  | error e =>
    obtain ⟨e1, e2, e3⟩ := b3
    obtain ⟨κ3, c1, c2, c3, c4⟩ := X7_endsE (v0 := v) hi hP2 (by rw [e3]; exact thk_ne k e) (mk v e2) hb (fun _ _ => rfl) r
    rw [c1, bd2_s]
    exact ⟨_, _, rfl, (f1.trans b2.md).trans c4, by rw [c2, e3], c3⟩
  | ok p =>
    obtain ⟨x, v'⟩ := p
    obtain ⟨e1, e2, e3⟩ := b3
    obtain ⟨κ3, c1, c2, c3, c4⟩ := X7_ends0 (v0 := v) hi hP2 hch (by rw [e3]; exact a2) (mk v' e2) hb r
    rw [c1, bd2_s]
    exact ⟨_, _, rfl, (f1.trans b2.md).trans c4, e1, c2, c3⟩
end WRAP
