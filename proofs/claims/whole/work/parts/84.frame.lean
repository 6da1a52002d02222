/-! ===== layer 3: the room's row ===== -/
/-- an int of the cells -/
def iS (ad : Nat → Nat) (κ : jKt) (n j : Nat) : Int32 := kI κ (ad n) j
/-- the letter of a state: planned p, cut c, sewn s -/
def ltr (x : Int32) : Int32 := if x = 0 then 112 else if x = 1 then 99 else 115
/-- the demands ahead of the sleeve l -/
def dmB (v : Nat → Int32) (s l f : Nat) : Prop := ∃ d, d < nn v (100 + 60 * s) ∧ nn v (133 + 60 * s + 2 * d) = f ∧ nn v (134 + 60 * s + 2 * d) = l
/-- the customer at cell n shows the customer c of the row v -/
def CRel (S : Nat → Nat → Int32) (n : Nat) (v : Nat → Int32) (c : Nat) : Prop :=
  S n 0 = oN (2 * nn v (12 + 17 * c)) ∧ ∀ l, l < 2 * nn v (12 + 17 * c) → S (n + 1) l = v (13 + 17 * c + l)
/-- the suit at cell n shows the suit s of the row v -/
def SRel (S : Nat → Nat → Int32) (n : Nat) (v : Nat → Int32) (s : Nat) : Prop :=
  S n 0 = v (97 + 60 * s) ∧ S n 1 = v (98 + 60 * s) ∧ S n 2 = v (99 + 60 * s) ∧ S n 3 = oN (sl v s) ∧ S n 4 = v (100 + 60 * s) ∧
  ∀ l, l < sl v s → S (n + 1) l = ltr (v (101 + 60 * s + l)) ∧ (v (101 + 60 * s + l) ≠ 0 → S (n + 2) l = v (117 + 60 * s + l)) ∧ ∀ f, f < 32 → (bt (S (n + 3) l) f = true ↔ dmB v s l f)
/-- room r, its suits in the order su, shows the row v -/
def RRel (S : Nat → Nat → Int32) (r : Nat) (su : Nat → Nat) (v : Nat → Int32) : Prop :=
  (∀ c, c < 4 → S (bR r + 1) c = v (8 + c)) ∧
  (S (bR r) 2 = v 0 ∧ S (bR r) 4 = v 1 ∧ S (bR r) 5 = v 2 ∧ S (bR r) 6 = v 3 ∧ S (bR r) 7 = v 4 ∧ S (bR r) 8 = v 5 ∧ S (bR r) 9 = v 6 ∧ S (bR r) 10 = v 7) ∧
  (∀ c, c < nn v 0 → CRel S (bR r + 4 + 2 * c) v c) ∧ (∀ s, s < nn v 1 → SRel S (bR r + 14 + 4 * su s) v s) ∧
  (∀ i k, i < 6 → k < 6 → su i = su k → i = k)
theorem iS_U {ad : Nat → Nat} (hi : ∀ a b, ad a = ad b → a = b) {κ : jKt} {n j : Nat} {x : Int32} (b k : Nat) : iS ad (kU κ (ad n) j (.int x)) b k = if b = n ∧ k = j then x else iS ad κ b k := kI_Un hi
/-- what a room shows hangs on its own cells alone -/
theorem RRel.same {S S' : Nat → Nat → Int32} {r : Nat} {su : Nat → Nat} {v : Nat → Int32} (h : RRel S r su v) (hsu : ∀ i, i < 6 → su i < 6) (hG : GR v) (e : ∀ n j, bR r ≤ n → n < bR r + 38 → S' n j = S n j) : RRel S' r su v := by
  obtain ⟨h1, ⟨a0, a1, a2, a3, a4, a5, a6, a7⟩, h2, h3, h4⟩ := h
  have g0 := hG.1.2.2
  have g1 := hG.2.1.2.2
  refine ⟨fun c hc => by rw [e _ _ (by omega) (by omega)]; exact h1 c hc, ⟨?_, ?_, ?_, ?_, ?_, ?_, ?_, ?_⟩, fun c hc => ?_, fun s hs => ?_, h4⟩
  · rw [e _ _ (by omega) (by omega)]; exact a0
  · rw [e _ _ (by omega) (by omega)]; exact a1
  · rw [e _ _ (by omega) (by omega)]; exact a2
  · rw [e _ _ (by omega) (by omega)]; exact a3
  · rw [e _ _ (by omega) (by omega)]; exact a4
  · rw [e _ _ (by omega) (by omega)]; exact a5
  · rw [e _ _ (by omega) (by omega)]; exact a6
  · rw [e _ _ (by omega) (by omega)]; exact a7
  · obtain ⟨c1, c2⟩ := h2 c hc
    refine ⟨by rw [e _ _ (by omega) (by omega)]; exact c1, fun l hl => ?_⟩
    rw [e _ _ (by omega) (by omega)]; exact c2 l hl
  · obtain ⟨s1, s2, s3, s4, s5, s6⟩ := h3 s hs
    have hk := hsu s (by omega)
    refine ⟨?_, ?_, ?_, ?_, ?_, fun l hl => ?_⟩
    · rw [e _ _ (by omega) (by omega)]; exact s1
    · rw [e _ _ (by omega) (by omega)]; exact s2
    · rw [e _ _ (by omega) (by omega)]; exact s3
    · rw [e _ _ (by omega) (by omega)]; exact s4
    · rw [e _ _ (by omega) (by omega)]; exact s5
    · obtain ⟨t1, t2, t3⟩ := s6 l hl
      refine ⟨?_, fun hp => ?_, fun f hf => ?_⟩
      · rw [e _ _ (by omega) (by omega)]; exact t1
      · rw [e _ _ (by omega) (by omega)]; exact t2 hp
      · rw [e _ _ (by omega) (by omega)]; exact t3 f hf
