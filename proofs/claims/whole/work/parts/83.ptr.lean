/-! ===== layer 3: where the cells are; an int written leaves every pointer ===== -/
/-- the first cell of room r: its 38 cells lie at bR r + o -/
def bR (r : Nat) : Nat := 100 + 50 * r
/-- the slots that hold ints: cell n, slot j -/
def iSl (n j : Nat) : Prop :=
  (n = 0 ∧ (j = 3 ∨ j = 5 ∨ j = 8 ∨ j = 9)) ∨ (n = 3 ∨ n = 4 ∨ n = 5 ∨ n = 7 ∨ n = 9 ∨ n = 10 ∨ n = 11 ∨ n = 12) ∨ (n = 6 ∧ j = 1) ∨ (n = 8 ∧ (j = 1 ∨ j = 4)) ∨
  (n = 20 ∧ (j < 5 ∨ 16 ≤ j)) ∨ (21 ≤ n ∧ n ≤ 41) ∨
  ∃ r, (n = bR r ∧ j ≠ 0 ∧ j ≠ 1 ∧ j ≠ 3) ∨ n = bR r + 1 ∨ (∃ i, i < 5 ∧ ((n = bR r + 4 + 2 * i ∧ j = 0) ∨ n = bR r + 5 + 2 * i)) ∨
    (∃ k, k < 6 ∧ ((n = bR r + 14 + 4 * k ∧ j < 5) ∨ n = bR r + 15 + 4 * k ∨ n = bR r + 16 + 4 * k ∨ n = bR r + 17 + 4 * k))
/-- the pointers: pr the present room, tr the trial, pa the rooms of the past, su the suits of a room in their order -/
def PT (ad : Nat → Nat) (κ : jKt) (pr tr : Nat) (pa : Nat → Nat) (su : Nat → Nat → Nat) : Prop :=
  (kR κ (ad 0) 0 = ad (bR pr) ∧ kR κ (ad 0) 1 = ad (bR tr) ∧ kR κ (ad 0) 2 = ad (bR 10) ∧ kR κ (ad 0) 4 = ad 1 ∧ kR κ (ad 0) 6 = ad 2 ∧ kR κ (ad 0) 7 = ad 8 ∧ kR κ (ad 0) 10 = ad 12) ∧
  (∀ i, i < 8 → kR κ (ad 1) i = ad (bR (pa i))) ∧
  (kR κ (ad 2) 0 = ad 3 ∧ kR κ (ad 2) 1 = ad 4 ∧ kR κ (ad 2) 2 = ad 5 ∧ kR κ (ad 2) 3 = ad 6 ∧ kR κ (ad 6) 0 = ad 7) ∧
  (kR κ (ad 8) 0 = ad 9 ∧ kR κ (ad 8) 2 = ad 10 ∧ kR κ (ad 8) 3 = ad 11) ∧
  (∀ k, k < 11 → kR κ (ad 20) (5 + k) = ad (21 + k)) ∧
  (∀ r, r < 11 → (kR κ (ad (bR r)) 0 = ad (bR r + 1) ∧ kR κ (ad (bR r)) 1 = ad (bR r + 2) ∧ kR κ (ad (bR r)) 3 = ad (bR r + 3)) ∧
    (∀ i, i < 5 → kR κ (ad (bR r + 2)) i = ad (bR r + 4 + 2 * i) ∧ kR κ (ad (bR r + 4 + 2 * i)) 1 = ad (bR r + 5 + 2 * i)) ∧
    (∀ i, i < 6 → kR κ (ad (bR r + 3)) i = ad (bR r + 14 + 4 * su r i) ∧ su r i < 6) ∧
    (∀ k, k < 6 → kR κ (ad (bR r + 14 + 4 * k)) 5 = ad (bR r + 15 + 4 * k) ∧ kR κ (ad (bR r + 14 + 4 * k)) 6 = ad (bR r + 16 + 4 * k) ∧ kR κ (ad (bR r + 14 + 4 * k)) 7 = ad (bR r + 17 + 4 * k)))
theorem kR_Un {ad : Nat → Nat} (hi : ∀ a b, ad a = ad b → a = b) {κ : jKt} {n j : Nat} {x : Int32} {b k : Nat} (h : ¬ (b = n ∧ k = j)) : kR (kU κ (ad n) j (.int x)) (ad b) k = kR κ (ad b) k := by
  rw [kR_U, if_neg (fun g => h ⟨hi _ _ g.1, g.2⟩)]
theorem kI_Un {ad : Nat → Nat} (hi : ∀ a b, ad a = ad b → a = b) {κ : jKt} {n j : Nat} {x : Int32} {b k : Nat} : kI (kU κ (ad n) j (.int x)) (ad b) k = if b = n ∧ k = j then x else kI κ (ad b) k := by
  rw [kI_U]
  by_cases h : b = n ∧ k = j
  · rw [if_pos ⟨by rw [h.1], h.2⟩, if_pos h]
  · rw [if_neg (fun g => h ⟨hi _ _ g.1, g.2⟩), if_neg h]
theorem PT_U {ad : Nat → Nat} (hi : ∀ a b, ad a = ad b → a = b) {κ : jKt} {pr tr : Nat} {pa : Nat → Nat} {su : Nat → Nat → Nat} (h : PT ad κ pr tr pa su) {n j : Nat} {x : Int32} (hs : iSl n j) : PT ad (kU κ (ad n) j (.int x)) pr tr pa su := by
  have key : ∀ b k, ¬ iSl b k → kR (kU κ (ad n) j (.int x)) (ad b) k = kR κ (ad b) k := fun b k hb => kR_Un hi (fun g => hb (by rw [g.1, g.2]; exact hs))
  obtain ⟨⟨a0, a1, a2, a3, a4, a5, a6⟩, b0, ⟨c0, c1, c2, c3, c4⟩, ⟨d0, d1, d2⟩, e0, f0⟩ := h
  refine ⟨⟨?_, ?_, ?_, ?_, ?_, ?_, ?_⟩, fun i hi8 => ?_, ⟨?_, ?_, ?_, ?_, ?_⟩, ⟨?_, ?_, ?_⟩, fun k hk => ?_, fun r hr => ?_⟩
  · rw [key _ _ (by unfold iSl bR; rintro (h | h | h | h | h | h | ⟨r9, h | h | ⟨i9, hi9, h | h⟩ | ⟨k9, hk9, h | h | h | h⟩⟩) <;> omega)]; exact a0
  · rw [key _ _ (by unfold iSl bR; rintro (h | h | h | h | h | h | ⟨r9, h | h | ⟨i9, hi9, h | h⟩ | ⟨k9, hk9, h | h | h | h⟩⟩) <;> omega)]; exact a1
  · rw [key _ _ (by unfold iSl bR; rintro (h | h | h | h | h | h | ⟨r9, h | h | ⟨i9, hi9, h | h⟩ | ⟨k9, hk9, h | h | h | h⟩⟩) <;> omega)]; exact a2
  · rw [key _ _ (by unfold iSl bR; rintro (h | h | h | h | h | h | ⟨r9, h | h | ⟨i9, hi9, h | h⟩ | ⟨k9, hk9, h | h | h | h⟩⟩) <;> omega)]; exact a3
  · rw [key _ _ (by unfold iSl bR; rintro (h | h | h | h | h | h | ⟨r9, h | h | ⟨i9, hi9, h | h⟩ | ⟨k9, hk9, h | h | h | h⟩⟩) <;> omega)]; exact a4
  · rw [key _ _ (by unfold iSl bR; rintro (h | h | h | h | h | h | ⟨r9, h | h | ⟨i9, hi9, h | h⟩ | ⟨k9, hk9, h | h | h | h⟩⟩) <;> omega)]; exact a5
  · rw [key _ _ (by unfold iSl bR; rintro (h | h | h | h | h | h | ⟨r9, h | h | ⟨i9, hi9, h | h⟩ | ⟨k9, hk9, h | h | h | h⟩⟩) <;> omega)]; exact a6
  · rw [key _ _ (by unfold iSl bR; rintro (h | h | h | h | h | h | ⟨r9, h | h | ⟨i9, hi9, h | h⟩ | ⟨k9, hk9, h | h | h | h⟩⟩) <;> omega)]; exact b0 i hi8
  · rw [key _ _ (by unfold iSl bR; rintro (h | h | h | h | h | h | ⟨r9, h | h | ⟨i9, hi9, h | h⟩ | ⟨k9, hk9, h | h | h | h⟩⟩) <;> omega)]; exact c0
  · rw [key _ _ (by unfold iSl bR; rintro (h | h | h | h | h | h | ⟨r9, h | h | ⟨i9, hi9, h | h⟩ | ⟨k9, hk9, h | h | h | h⟩⟩) <;> omega)]; exact c1
  · rw [key _ _ (by unfold iSl bR; rintro (h | h | h | h | h | h | ⟨r9, h | h | ⟨i9, hi9, h | h⟩ | ⟨k9, hk9, h | h | h | h⟩⟩) <;> omega)]; exact c2
  · rw [key _ _ (by unfold iSl bR; rintro (h | h | h | h | h | h | ⟨r9, h | h | ⟨i9, hi9, h | h⟩ | ⟨k9, hk9, h | h | h | h⟩⟩) <;> omega)]; exact c3
  · rw [key _ _ (by unfold iSl bR; rintro (h | h | h | h | h | h | ⟨r9, h | h | ⟨i9, hi9, h | h⟩ | ⟨k9, hk9, h | h | h | h⟩⟩) <;> omega)]; exact c4
  · rw [key _ _ (by unfold iSl bR; rintro (h | h | h | h | h | h | ⟨r9, h | h | ⟨i9, hi9, h | h⟩ | ⟨k9, hk9, h | h | h | h⟩⟩) <;> omega)]; exact d0
  · rw [key _ _ (by unfold iSl bR; rintro (h | h | h | h | h | h | ⟨r9, h | h | ⟨i9, hi9, h | h⟩ | ⟨k9, hk9, h | h | h | h⟩⟩) <;> omega)]; exact d1
  · rw [key _ _ (by unfold iSl bR; rintro (h | h | h | h | h | h | ⟨r9, h | h | ⟨i9, hi9, h | h⟩ | ⟨k9, hk9, h | h | h | h⟩⟩) <;> omega)]; exact d2
  · rw [key _ _ (by unfold iSl bR; rintro (h | h | h | h | h | h | ⟨r9, h | h | ⟨i9, hi9, h | h⟩ | ⟨k9, hk9, h | h | h | h⟩⟩) <;> omega)]; exact e0 k hk
  · obtain ⟨⟨g0, g1, g2⟩, g3, g4, g5⟩ := f0 r hr
    refine ⟨⟨?_, ?_, ?_⟩, fun i h5 => ⟨?_, ?_⟩, fun i h6 => ⟨?_, (g4 i h6).2⟩, fun k h6 => ⟨?_, ?_, ?_⟩⟩
    · rw [key _ _ (by unfold iSl bR; rintro (h | h | h | h | h | h | ⟨r9, h | h | ⟨i9, hi9, h | h⟩ | ⟨k9, hk9, h | h | h | h⟩⟩) <;> first | omega | (rcases Nat.lt_trichotomy r9 r with q9 | q9 | q9 <;> omega))]; exact g0
    · rw [key _ _ (by unfold iSl bR; rintro (h | h | h | h | h | h | ⟨r9, h | h | ⟨i9, hi9, h | h⟩ | ⟨k9, hk9, h | h | h | h⟩⟩) <;> first | omega | (rcases Nat.lt_trichotomy r9 r with q9 | q9 | q9 <;> omega))]; exact g1
    · rw [key _ _ (by unfold iSl bR; rintro (h | h | h | h | h | h | ⟨r9, h | h | ⟨i9, hi9, h | h⟩ | ⟨k9, hk9, h | h | h | h⟩⟩) <;> first | omega | (rcases Nat.lt_trichotomy r9 r with q9 | q9 | q9 <;> omega))]; exact g2
    · rw [key _ _ (by unfold iSl bR; rintro (h | h | h | h | h | h | ⟨r9, h | h | ⟨i9, hi9, h | h⟩ | ⟨k9, hk9, h | h | h | h⟩⟩) <;> first | omega | (rcases Nat.lt_trichotomy r9 r with q9 | q9 | q9 <;> omega))]; exact (g3 i h5).1
    · rw [key _ _ (by unfold iSl bR; rintro (h | h | h | h | h | h | ⟨r9, h | h | ⟨i9, hi9, h | h⟩ | ⟨k9, hk9, h | h | h | h⟩⟩) <;> first | omega | (rcases Nat.lt_trichotomy r9 r with q9 | q9 | q9 <;> omega))]; exact (g3 i h5).2
    · rw [key _ _ (by unfold iSl bR; rintro (h | h | h | h | h | h | ⟨r9, h | h | ⟨i9, hi9, h | h⟩ | ⟨k9, hk9, h | h | h | h⟩⟩) <;> first | omega | (rcases Nat.lt_trichotomy r9 r with q9 | q9 | q9 <;> omega))]; exact (g4 i h6).1
    · rw [key _ _ (by unfold iSl bR; rintro (h | h | h | h | h | h | ⟨r9, h | h | ⟨i9, hi9, h | h⟩ | ⟨k9, hk9, h | h | h | h⟩⟩) <;> first | omega | (rcases Nat.lt_trichotomy r9 r with q9 | q9 | q9 <;> omega))]; exact (g5 k h6).1
    · rw [key _ _ (by unfold iSl bR; rintro (h | h | h | h | h | h | ⟨r9, h | h | ⟨i9, hi9, h | h⟩ | ⟨k9, hk9, h | h | h | h⟩⟩) <;> first | omega | (rcases Nat.lt_trichotomy r9 r with q9 | q9 | q9 <;> omega))]; exact (g5 k h6).2.1
    · rw [key _ _ (by unfold iSl bR; rintro (h | h | h | h | h | h | ⟨r9, h | h | ⟨i9, hi9, h | h⟩ | ⟨k9, hk9, h | h | h | h⟩⟩) <;> first | omega | (rcases Nat.lt_trichotomy r9 r with q9 | q9 | q9 <;> omega))]; exact (g5 k h6).2.2
