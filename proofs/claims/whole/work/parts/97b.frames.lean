/-! ===== layer 3: frames: what a method leaves as it was ===== -/
/-- ints of the cells in A may have changed, nothing else -/
def Fr (ad : Nat → Nat) (A : Nat → Prop) (κ κ' : jKt) : Prop := ∀ n j, (A n → ¬ iSl n j) → κ' (ad n) j = κ (ad n) j
theorem Fr.refl {ad : Nat → Nat} {A : Nat → Prop} (κ : jKt) : Fr ad A κ κ := fun _ _ _ => rfl
theorem Fr.trans {ad : Nat → Nat} {A : Nat → Prop} {κ κ1 κ2 : jKt} (h : Fr ad A κ κ1) (g : Fr ad A κ1 κ2) : Fr ad A κ κ2 := fun n j hj => (g n j hj).trans (h n j hj)
theorem Fr.mono {ad : Nat → Nat} {A B : Nat → Prop} {κ κ' : jKt} (h : Fr ad A κ κ') (hAB : ∀ n, A n → B n) : Fr ad B κ κ' := fun n j hj => h n j (fun hA => hj (hAB n hA))
theorem Fr.U {ad : Nat → Nat} (hi : ∀ a b, ad a = ad b → a = b) {A : Nat → Prop} {κ : jKt} {n j : Nat} {x : Int32} (hs : iSl n j) (hA : A n) : Fr ad A κ (kU κ (ad n) j (.int x)) := by
  intro b k hb
  unfold kU
  rw [if_neg (fun g => ?_)]
  have e := hi _ _ g.1
  subst e
  exact hb hA (by rw [g.2]; exact hs)
theorem Fr.i {ad : Nat → Nat} {A : Nat → Prop} {κ κ' : jKt} (h : Fr ad A κ κ') {n : Nat} (hn : ¬ A n) (j : Nat) : iS ad κ' n j = iS ad κ n j := by
  unfold iS kI
  rw [h n j (fun g => absurd g hn)]
theorem Fr.ki {ad : Nat → Nat} {A : Nat → Prop} {κ κ' : jKt} (h : Fr ad A κ κ') {n : Nat} (hn : ¬ A n) (j : Nat) : kI κ' (ad n) j = kI κ (ad n) j := h.i hn j
theorem Fr.kr {ad : Nat → Nat} {A : Nat → Prop} {κ κ' : jKt} (h : Fr ad A κ κ') {n j : Nat} (hn : ¬ iSl n j) : kR κ' (ad n) j = kR κ (ad n) j := by
  unfold kR
  rw [h n j (fun _ => hn)]
theorem PT_K {ad : Nat → Nat} {κ κ' : jKt} {pr tr : Nat} {pa : Nat → Nat} {su : Nat → Nat → Nat} (h : PT ad κ pr tr pa su) (key : ∀ b k, ¬ iSl b k → kR κ' (ad b) k = kR κ (ad b) k) : PT ad κ' pr tr pa su := by
  obtain ⟨⟨a0, a1, a2, a3, a4, a5, a6⟩, b0, ⟨c0, c1, c2, c3, c4⟩, ⟨d0, d1, d2⟩, e0, f0⟩ := h
  refine ⟨⟨?_, ?_, ?_, ?_, ?_, ?_, ?_⟩, fun i hi8 => ?_, ⟨?_, ?_, ?_, ?_, ?_⟩, ⟨?_, ?_, ?_⟩, fun k hk => ?_, fun r hr => ?_⟩
  · rw [key _ _ (by unfold iSl bR; rintro (h | h | h | h | h | h | ⟨r9, h | h | ⟨i9, hi9, h | h⟩ | ⟨k9, hk9, h | h | h | h⟩⟩) <;> first | omega | (rcases Nat.lt_trichotomy r9 r with q9 | q9 | q9 <;> omega))]; exact a0
  · rw [key _ _ (by unfold iSl bR; rintro (h | h | h | h | h | h | ⟨r9, h | h | ⟨i9, hi9, h | h⟩ | ⟨k9, hk9, h | h | h | h⟩⟩) <;> first | omega | (rcases Nat.lt_trichotomy r9 r with q9 | q9 | q9 <;> omega))]; exact a1
  · rw [key _ _ (by unfold iSl bR; rintro (h | h | h | h | h | h | ⟨r9, h | h | ⟨i9, hi9, h | h⟩ | ⟨k9, hk9, h | h | h | h⟩⟩) <;> first | omega | (rcases Nat.lt_trichotomy r9 r with q9 | q9 | q9 <;> omega))]; exact a2
  · rw [key _ _ (by unfold iSl bR; rintro (h | h | h | h | h | h | ⟨r9, h | h | ⟨i9, hi9, h | h⟩ | ⟨k9, hk9, h | h | h | h⟩⟩) <;> first | omega | (rcases Nat.lt_trichotomy r9 r with q9 | q9 | q9 <;> omega))]; exact a3
  · rw [key _ _ (by unfold iSl bR; rintro (h | h | h | h | h | h | ⟨r9, h | h | ⟨i9, hi9, h | h⟩ | ⟨k9, hk9, h | h | h | h⟩⟩) <;> first | omega | (rcases Nat.lt_trichotomy r9 r with q9 | q9 | q9 <;> omega))]; exact a4
  · rw [key _ _ (by unfold iSl bR; rintro (h | h | h | h | h | h | ⟨r9, h | h | ⟨i9, hi9, h | h⟩ | ⟨k9, hk9, h | h | h | h⟩⟩) <;> first | omega | (rcases Nat.lt_trichotomy r9 r with q9 | q9 | q9 <;> omega))]; exact a5
  · rw [key _ _ (by unfold iSl bR; rintro (h | h | h | h | h | h | ⟨r9, h | h | ⟨i9, hi9, h | h⟩ | ⟨k9, hk9, h | h | h | h⟩⟩) <;> first | omega | (rcases Nat.lt_trichotomy r9 r with q9 | q9 | q9 <;> omega))]; exact a6
  · rw [key _ _ (by unfold iSl bR; rintro (h | h | h | h | h | h | ⟨r9, h | h | ⟨i9, hi9, h | h⟩ | ⟨k9, hk9, h | h | h | h⟩⟩) <;> first | omega | (rcases Nat.lt_trichotomy r9 r with q9 | q9 | q9 <;> omega))]; exact b0 i hi8
  · rw [key _ _ (by unfold iSl bR; rintro (h | h | h | h | h | h | ⟨r9, h | h | ⟨i9, hi9, h | h⟩ | ⟨k9, hk9, h | h | h | h⟩⟩) <;> first | omega | (rcases Nat.lt_trichotomy r9 r with q9 | q9 | q9 <;> omega))]; exact c0
  · rw [key _ _ (by unfold iSl bR; rintro (h | h | h | h | h | h | ⟨r9, h | h | ⟨i9, hi9, h | h⟩ | ⟨k9, hk9, h | h | h | h⟩⟩) <;> first | omega | (rcases Nat.lt_trichotomy r9 r with q9 | q9 | q9 <;> omega))]; exact c1
  · rw [key _ _ (by unfold iSl bR; rintro (h | h | h | h | h | h | ⟨r9, h | h | ⟨i9, hi9, h | h⟩ | ⟨k9, hk9, h | h | h | h⟩⟩) <;> first | omega | (rcases Nat.lt_trichotomy r9 r with q9 | q9 | q9 <;> omega))]; exact c2
  · rw [key _ _ (by unfold iSl bR; rintro (h | h | h | h | h | h | ⟨r9, h | h | ⟨i9, hi9, h | h⟩ | ⟨k9, hk9, h | h | h | h⟩⟩) <;> first | omega | (rcases Nat.lt_trichotomy r9 r with q9 | q9 | q9 <;> omega))]; exact c3
  · rw [key _ _ (by unfold iSl bR; rintro (h | h | h | h | h | h | ⟨r9, h | h | ⟨i9, hi9, h | h⟩ | ⟨k9, hk9, h | h | h | h⟩⟩) <;> first | omega | (rcases Nat.lt_trichotomy r9 r with q9 | q9 | q9 <;> omega))]; exact c4
  · rw [key _ _ (by unfold iSl bR; rintro (h | h | h | h | h | h | ⟨r9, h | h | ⟨i9, hi9, h | h⟩ | ⟨k9, hk9, h | h | h | h⟩⟩) <;> first | omega | (rcases Nat.lt_trichotomy r9 r with q9 | q9 | q9 <;> omega))]; exact d0
  · rw [key _ _ (by unfold iSl bR; rintro (h | h | h | h | h | h | ⟨r9, h | h | ⟨i9, hi9, h | h⟩ | ⟨k9, hk9, h | h | h | h⟩⟩) <;> first | omega | (rcases Nat.lt_trichotomy r9 r with q9 | q9 | q9 <;> omega))]; exact d1
  · rw [key _ _ (by unfold iSl bR; rintro (h | h | h | h | h | h | ⟨r9, h | h | ⟨i9, hi9, h | h⟩ | ⟨k9, hk9, h | h | h | h⟩⟩) <;> first | omega | (rcases Nat.lt_trichotomy r9 r with q9 | q9 | q9 <;> omega))]; exact d2
  · rw [key _ _ (by unfold iSl bR; rintro (h | h | h | h | h | h | ⟨r9, h | h | ⟨i9, hi9, h | h⟩ | ⟨k9, hk9, h | h | h | h⟩⟩) <;> first | omega | (rcases Nat.lt_trichotomy r9 r with q9 | q9 | q9 <;> omega))]; exact e0 k hk
  · obtain ⟨⟨g0, g1, g2⟩, g3, g4, g5⟩ := f0 r hr
    refine ⟨⟨?_, ?_, ?_⟩, fun i h5 => ⟨?_, ?_⟩, fun i h6 => ⟨?_, (g4 i h6).2⟩, fun k h6 => ⟨?_, ?_, ?_⟩⟩
    · rw [key _ _ (by unfold iSl bR; rintro (h | h | h | h | h | h | ⟨r9, h | h | ⟨i9, hi9, h | h⟩ | ⟨k9, hk9, h | h | h | h⟩⟩) <;> first | omega | (rcases Nat.lt_trichotomy r9 r with q9 | q9 | q9 <;> omega))]; exact g0
    · rw [key _ _ (by unfold iSl bR; rintro (h | h | h | h | h | h | ⟨r9, h | h | ⟨i9, hi9, h | h⟩ | ⟨k9, hk9, h | h | h | h⟩⟩) <;> first | omega | (rcases Nat.lt_trichotomy r9 r with q9 | q9 | q9 <;> omega))]; exact g1
    · rw [key _ _ (by unfold iSl bR; rintro (h | h | h | h | h | h | ⟨r9, h | h | ⟨i9, hi9, h | h⟩ | ⟨k9, hk9, h | h | h | h⟩⟩) <;> first | omega | (rcases Nat.lt_trichotomy r9 r with q9 | q9 | q9 <;> omega))]; exact g2
    · rw [key _ _ (by unfold iSl bR; rintro (h | h | h | h | h | h | ⟨r9, h | h | ⟨i9, hi9, h | h⟩ | ⟨k9, hk9, h | h | h | h⟩⟩) <;> first | omega | (rcases Nat.lt_trichotomy r9 r with q9 | q9 | q9 <;> omega))]; exact (g3 i h5).1
    · rw [key _ _ (by unfold iSl bR; rintro (h | h | h | h | h | h | ⟨r9, h | h | ⟨i9, hi9, h | h⟩ | ⟨k9, hk9, h | h | h | h⟩⟩) <;> first | omega | (rcases Nat.lt_trichotomy r9 r with q9 | q9 | q9 <;> omega))]; exact (g3 i h5).2
    · rw [key _ _ (by unfold iSl bR; rintro (h | h | h | h | h | h | ⟨r9, h | h | ⟨i9, hi9, h | h⟩ | ⟨k9, hk9, h | h | h | h⟩⟩) <;> first | omega | (rcases Nat.lt_trichotomy r9 r with q9 | q9 | q9 <;> omega))]; exact (g4 i h6).1
    · rw [key _ _ (by unfold iSl bR; rintro (h | h | h | h | h | h | ⟨r9, h | h | ⟨i9, hi9, h | h⟩ | ⟨k9, hk9, h | h | h | h⟩⟩) <;> first | omega | (rcases Nat.lt_trichotomy r9 r with q9 | q9 | q9 <;> omega))]; exact (g5 k h6).1
    · rw [key _ _ (by unfold iSl bR; rintro (h | h | h | h | h | h | ⟨r9, h | h | ⟨i9, hi9, h | h⟩ | ⟨k9, hk9, h | h | h | h⟩⟩) <;> first | omega | (rcases Nat.lt_trichotomy r9 r with q9 | q9 | q9 <;> omega))]; exact (g5 k h6).2.1
    · rw [key _ _ (by unfold iSl bR; rintro (h | h | h | h | h | h | ⟨r9, h | h | ⟨i9, hi9, h | h⟩ | ⟨k9, hk9, h | h | h | h⟩⟩) <;> first | omega | (rcases Nat.lt_trichotomy r9 r with q9 | q9 | q9 <;> omega))]; exact (g5 k h6).2.2
theorem Fr.pt {ad : Nat → Nat} {A : Nat → Prop} {κ κ' : jKt} (h : Fr ad A κ κ') {pr tr : Nat} {pa : Nat → Nat} {su : Nat → Nat → Nat} (hP : PT ad κ pr tr pa su) : PT ad κ' pr tr pa su := PT_K hP (fun _ _ hb => h.kr hb)
/-- the model's row is the cell 21 -/
theorem PT.mv {ad : Nat → Nat} {κ : jKt} {pr tr : Nat} {pa : Nat → Nat} {su : Nat → Nat → Nat} (hP : PT ad κ pr tr pa su) : mv κ (ad 20) = iS ad κ 21 := by
  funext j
  show kI κ (kR κ (ad 20) (5 + 0)) j = kI κ (ad 21) j
  rw [hP.2.2.2.2.1 0 (by omega)]
theorem Fr.mv {ad : Nat → Nat} {A : Nat → Prop} {κ κ' : jKt} (h : Fr ad A κ κ') {pr tr : Nat} {pa : Nat → Nat} {su : Nat → Nat → Nat} (hP : PT ad κ pr tr pa su) (hn : ¬ A 21) : mv κ' (ad 20) = mv κ (ad 20) := by
  rw [(h.pt hP).mv, hP.mv]
  funext j
  exact h.i hn j
theorem SV.fr {ad : Nat → Nat} {A : Nat → Prop} {κ κ' : jKt} (hF : Fr ad A κ κ') {pr tr : Nat} {pa : Nat → Nat} {su : Nat → Nat → Nat} (hP : PT ad κ pr tr pa su) {r k : Nat} (hr : r < 11) (hk : k < 6) (hA : ∀ i, i < 4 → ¬ A (bR r + 14 + 4 * k + i)) {v : Nat → Int32} {s : Nat} (h : SV κ (ad (bR r + 14 + 4 * k)) v s) : SV κ' (ad (bR r + 14 + 4 * k)) v s := by
  obtain ⟨s1, s2, s3, s4, s5, s6⟩ := h
  obtain ⟨k1, k2, k3⟩ := (hP.2.2.2.2.2 r hr).2.2.2 _ hk
  obtain ⟨l1, l2, l3⟩ := ((hF.pt hP).2.2.2.2.2 r hr).2.2.2 _ hk
  have e0 : ¬ A (bR r + 14 + 4 * k) := hA 0 (by omega)
  have e1 := hA 1 (by omega)
  have e2 := hA 2 (by omega)
  have e3 := hA 3 (by omega)
  refine ⟨by rw [hF.ki e0]; exact s1, by rw [hF.ki e0]; exact s2, by rw [hF.ki e0]; exact s3, by rw [hF.ki e0]; exact s4, by rw [hF.ki e0]; exact s5, fun l hl => ?_⟩
  obtain ⟨t1, t2, t3⟩ := s6 l hl
  have f1 : sSt κ' (ad (bR r + 14 + 4 * k)) l = sSt κ (ad (bR r + 14 + 4 * k)) l := by
    show kI κ' (kR κ' _ 5) l = kI κ (kR κ _ 5) l
    rw [l1, k1, show bR r + 15 + 4 * k = bR r + 14 + 4 * k + 1 by omega, hF.ki e1]
  have f2 : sLn κ' (ad (bR r + 14 + 4 * k)) l = sLn κ (ad (bR r + 14 + 4 * k)) l := by
    show kI κ' (kR κ' _ 6) l = kI κ (kR κ _ 6) l
    rw [l2, k2, show bR r + 16 + 4 * k = bR r + 14 + 4 * k + 2 by omega, hF.ki e2]
  have f3 : sDm κ' (ad (bR r + 14 + 4 * k)) l = sDm κ (ad (bR r + 14 + 4 * k)) l := by
    show kI κ' (kR κ' _ 7) l = kI κ (kR κ _ 7) l
    rw [l3, k3, show bR r + 17 + 4 * k = bR r + 14 + 4 * k + 3 by omega, hF.ki e3]
  rw [f1, f2, f3]
  exact ⟨t1, t2, t3⟩
