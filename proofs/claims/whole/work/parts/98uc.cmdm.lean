/-! ===== layer 3: the model reads a command ===== -/
section CMDM
variable {ad : Nat → Nat} {κ κ1 κ2 : jKt} {T : Nat → Int32} {n p k : Nat}
/-- how many digits a sign of a form may have -/
def dg (c : Int32) : Nat := if c = 35 then 1 else 3
theorem rF_1 {c : Int32} (hc : c = 35 ∨ c = 64) (p : Nat) : rF T n [c] p = if eD T n (dg c) p = p then .error p else .ok (eD T n (dg c) p, [vO T (eD T n (dg c) p - p) p 0]) := by
  rcases hc with h | h <;> subst h <;> rfl
theorem m_dig (hi : ∀ a b, ad a = ad b → a = b) (h : SM ad κ T n p 0) {c : Int32} (hc : c = 35 ∨ c = 64) : ∃ y κ', P_X7_digits κ (ad 20) (oN (dg c)) = some (y, κ') ∧ Fq ad κ κ' ∧ match rF T n [c] p with
    | .error e => SM ad κ' T n e 1
    | .ok (p', as) => SM ad κ' T n p' 0 ∧ as = [y] := by
  obtain ⟨κ', a1, a2, a3⟩ := m_digits hi (k := dg c) (by unfold dg; split <;> omega) h
  refine ⟨_, κ', a1, a2, ?_⟩
  rw [rF_1 hc]
  by_cases z : eD T n (dg c) p = p
  · rw [if_pos z] at a3 ⊢
    rw [z] at a3
    exact a3
  · rw [if_neg z] at a3 ⊢
    exact ⟨a3, rfl⟩
theorem rF_c {c : Int32} (hc : c = 32 ∨ c = 60) (G : List Int32) (p : Nat) : rF T n (c :: G) p = if p < n ∧ T p = c then rF T n G (p + 1) else .error p := by
  have e : eS T n c p = if p < n ∧ T p = c then p + 1 else p := by
    rcases hc with h | h <;> subst h <;> rfl
  have hA : ¬ isA c = true := by
    rcases hc with h | h <;> subst h <;> decide
  rw [rF, e]
  by_cases z : p < n ∧ T p = c
  · rw [if_pos z, if_pos z, if_neg (by omega)]
    cases rF T n G (p + 1) with
    | error e => rfl
    | ok w =>
      obtain ⟨p', as⟩ := w
      simp only [if_neg hA]
  · rw [if_neg z, if_neg z, if_pos rfl]
theorem m_beh (hi : ∀ a b, ad a = ad b → a = b) (h : SM ad κ T n p 0) {c d : Int32} (hc : c = 32 ∨ c = 60) (hd : d = 35 ∨ d = 64) : ∃ y κ', P_X7_behindSign κ (ad 20) c (oN (dg d)) = some (y, κ') ∧ Fq ad κ κ' ∧ match rF T n [c, d] p with
    | .error e => SM ad κ' T n e 1
    | .ok (p', as) => SM ad κ' T n p' 0 ∧ as = [y] := by
  obtain ⟨κ1, a1, a2, a3⟩ := m_mark hi h (c := c) (by rcases hc with h | h <;> subst h <;> decide)
  rw [rF_c hc]
  unfold P_X7_behindSign
  rw [a1, bd_s]
  by_cases z : p < n ∧ T p = c
  · rw [if_pos z] at a3 ⊢
    obtain ⟨y, κ', b1, b2, b3⟩ := m_dig hi a3 hd
    rw [a3.2.2, if_pos rfl, b1, bd2_s]
    exact ⟨y, κ', rfl, a2.trans b2, b3⟩
  · rw [if_neg z] at a3 ⊢
    rw [a3.2.2, if_neg (by decide)]
    exact ⟨0, κ1, rfl, a2, a3⟩
/-- what the model does with the rest of a form whose first arguments are L -/
def CMp (ad : Nat → Nat) (κ : jKt) (T : Nat → Int32) (n k : Nat) (L : List Int32) (res : Except Nat (Nat × List Int32)) (x : Option jKt) : Prop := match res with
  | .error e => ∃ κ', x = some κ' ∧ Fq ad κ κ' ∧ SM ad κ' T n e 1
  | .ok (p', as) => ∃ κ', x = P_X7_command_99 κ' (ad 20) (oN k) ((L ++ as).getD 1 0) ((L ++ as).getD 2 0) ((L ++ as).getD 0 0) ∧ Fq ad κ κ' ∧ SM ad κ' T n p' 0
theorem CMp.app {L as : List Int32} {G H : List Int32} {p1 : Nat} {x : Option jKt} (hG : rF T n G p = .ok (p1, as)) (f : Fq ad κ κ1) (h : CMp ad κ1 T n k (L ++ as) (rF T n H p1) x) : CMp ad κ T n k L (rF T n (G ++ H) p) x := by
  rw [rF_app, hG]
  simp only []
  cases hR : rF T n H p1 with
  | error e =>
    rw [hR] at h
    obtain ⟨κ', h1, h2, h3⟩ := h
    exact ⟨κ', h1, f.trans h2, h3⟩
  | ok w =>
    obtain ⟨p2, bs⟩ := w
    rw [hR] at h
    obtain ⟨κ', h1, h2, h3⟩ := h
    rw [List.append_assoc] at h1
    exact ⟨κ', h1, f.trans h2, h3⟩
theorem CMp.err {L : List Int32} {G H : List Int32} {e : Nat} (hG : rF T n G p = .error e) (f : Fq ad κ κ1) (h : SM ad κ1 T n e 1) : CMp ad κ T n k L (rF T n (G ++ H) p) (some κ1) := by
  rw [rF_app, hG]
  exact ⟨κ1, rfl, f, h⟩
theorem c_99e (h : ¬ kI κ (ad 20) 20 = 0) (a b c d : Int32) : P_X7_command_99 κ (ad 20) a b c d = some κ := by
  unfold P_X7_command_99
  rw [if_neg h]
theorem c_63e (h : ¬ kI κ (ad 20) 20 = 0) (a b c d : Int32) : P_X7_command_63 κ (ad 20) a b c d = some κ := by
  unfold P_X7_command_63 P_X7_command_74
  rw [if_neg h, c_99e h, ite_self, ite_self]
/-- behind the second argument -/
def r3 (k : Nat) : List Int32 := if k = 2 then [32, 64] else if k = 7 then [60, 64] else []
/-- behind the first argument -/
def r2 (k : Nat) : List Int32 := if 8 ≤ k then [] else [32, if k = 3 then 35 else 64] ++ r3 k
theorem ar_r : ∀ k, k < 10 → ar k = [if 4 ≤ k then 64 else 35] ++ r2 k := by decide +kernel
theorem kN_eq {k m : Nat} (hk : k < 10) (hm : m < 10) : (oN k = oN m) ↔ k = m := oN_eq (by omega) (by omega)
theorem m_63 (hi : ∀ a b, ad a = ad b → a = b) (hk : k < 8) (h : SM ad κ T n p 0) (a b : Int32) : CMp ad κ T n k [a, b] (rF T n (r3 k) p) (P_X7_command_63 κ (ad 20) (oN k) b 0 a) := by
  have e2 := kN_eq (k := k) (m := 2) (by omega) (by omega)
  have e7 := kN_eq (k := k) (m := 7) (by omega) (by omega)
  have q2 : (oN k = 2) ↔ k = 2 := e2
  have q7 : (oN k = 7) ↔ k = 7 := e7
  unfold P_X7_command_63 P_X7_command_74 r3
  by_cases z : k = 2
  · obtain ⟨y, κ', b1, b2, b3⟩ := m_beh hi h (c := 32) (d := 64) (Or.inl rfl) (Or.inr rfl)
    have b1' : P_X7_behindSign κ (ad 20) 32 3 = some (y, κ') := b1
    rw [if_pos z, if_pos (q2.mpr z), h.2.2, if_pos rfl, if_pos (q2.mpr z)]
    unfold P_X7_command_94
    rw [b1', bd2_s]
    cases hR : rF T n [32, 64] p with
    | error e =>
      rw [hR] at b3
      rw [c_99e (by rw [b3.2.2]; decide)]
      exact ⟨κ', rfl, b2, b3⟩
    | ok w =>
      obtain ⟨p', as⟩ := w
      rw [hR] at b3
      obtain ⟨b3, rfl⟩ := b3
      exact ⟨κ', rfl, b2, b3⟩
  · rw [if_neg z, if_neg (fun g => z (q2.mp g))]
    by_cases y7 : k = 7
    · obtain ⟨y, κ', b1, b2, b3⟩ := m_beh hi h (c := 60) (d := 64) (Or.inr rfl) (Or.inr rfl)
      have b1' : P_X7_behindSign κ (ad 20) 60 3 = some (y, κ') := b1
      rw [if_pos y7, if_pos (q7.mpr y7), h.2.2, if_pos rfl, if_neg (fun g => z (q2.mp g))]
      unfold P_X7_command_94
      rw [b1', bd2_s]
      cases hR : rF T n [60, 64] p with
      | error e =>
        rw [hR] at b3
        rw [c_99e (by rw [b3.2.2]; decide)]
        exact ⟨κ', rfl, b2, b3⟩
      | ok w =>
        obtain ⟨p', as⟩ := w
        rw [hR] at b3
        obtain ⟨b3, rfl⟩ := b3
        exact ⟨κ', rfl, b2, b3⟩
    · rw [if_neg y7, if_neg (fun g => y7 (q7.mp g))]
      exact ⟨κ, rfl, Fq.refl, h⟩
theorem m_59 (hi : ∀ a b, ad a = ad b → a = b) (hk : k < 8) (h : SM ad κ T n p 0) (a : Int32) : CMp ad κ T n k [a] (rF T n (r2 k) p) (if oN k = 3 then P_X7_command_59 κ (ad 20) (oN k) 0 a 1 32 (ad 20) else P_X7_command_59 κ (ad 20) (oN k) 0 a 3 32 (ad 20)) := by
  have q3 : (oN k = 3) ↔ k = 3 := kN_eq (k := k) (m := 3) (by omega) (by omega)
  have hd : (if k = 3 then (35 : Int32) else 64) = 35 ∨ (if k = 3 then (35 : Int32) else 64) = 64 := by split <;> simp
  have e : (if oN k = 3 then P_X7_command_59 κ (ad 20) (oN k) 0 a 1 32 (ad 20) else P_X7_command_59 κ (ad 20) (oN k) 0 a 3 32 (ad 20)) = P_X7_command_59 κ (ad 20) (oN k) 0 a (oN (dg (if k = 3 then 35 else 64))) 32 (ad 20) := by
    by_cases z : k = 3
    · rw [if_pos (q3.mpr z), if_pos z]; rfl
    · rw [if_neg (fun g => z (q3.mp g)), if_neg z]; rfl
  obtain ⟨y, κ', b1, b2, b3⟩ := m_beh hi h (c := 32) (d := if k = 3 then 35 else 64) (Or.inl rfl) hd
  rw [e]
  unfold P_X7_command_59 r2
  rw [if_neg (by omega), b1, bd2_s]
  cases hR : rF T n [32, if k = 3 then 35 else 64] p with
  | error e =>
    rw [hR] at b3
    rw [c_63e (by rw [b3.2.2]; decide)]
    exact CMp.err hR b2 b3
  | ok w =>
    obtain ⟨p', as⟩ := w
    rw [hR] at b3
    obtain ⟨b3, rfl⟩ := b3
    exact CMp.app hR b2 (m_63 hi hk b3 a y)
theorem m_28 (hi : ∀ a b, ad a = ad b → a = b) (hk : k < 10) (h : SM ad κ T n p 0) : CMp ad κ T n k [] (rF T n (ar k) p) (if 4 ≤ oN k then P_X7_command_28 κ (ad 20) (oN k) 0 0 3 (ad 20) else P_X7_command_28 κ (ad 20) (oN k) 0 0 1 (ad 20)) := by
  have q4 : (4 ≤ oN k) ↔ 4 ≤ k := oN_le (a := 4) (by omega) (by omega)
  have q8 : (8 ≤ oN k) ↔ 8 ≤ k := oN_le (a := 8) (by omega) (by omega)
  have hd : (if 4 ≤ k then (64 : Int32) else 35) = 35 ∨ (if 4 ≤ k then (64 : Int32) else 35) = 64 := by split <;> simp
  have e : (if 4 ≤ oN k then P_X7_command_28 κ (ad 20) (oN k) 0 0 3 (ad 20) else P_X7_command_28 κ (ad 20) (oN k) 0 0 1 (ad 20)) = P_X7_command_28 κ (ad 20) (oN k) 0 0 (oN (dg (if 4 ≤ k then 64 else 35))) (ad 20) := by
    by_cases z : 4 ≤ k
    · rw [if_pos (q4.mpr z), if_pos z]; rfl
    · rw [if_neg (fun g => z (q4.mp g)), if_neg z]; rfl
  obtain ⟨y, κ', b1, b2, b3⟩ := m_dig hi h hd
  rw [e, ar_r k hk]
  generalize (if 4 ≤ k then (64 : Int32) else 35) = d0 at *
  unfold P_X7_command_28
  rw [b1, bd2_s]
  by_cases z : 8 ≤ k
  · rw [if_pos (q8.mpr z)]
    cases hR : rF T n [d0] p with
    | error e =>
      rw [hR] at b3
      rw [c_63e (by rw [b3.2.2]; decide)]
      exact CMp.err hR b2 b3
    | ok w =>
      obtain ⟨p', as⟩ := w
      rw [hR] at b3
      obtain ⟨b3, rfl⟩ := b3
      refine CMp.app hR b2 ?_
      unfold r2 P_X7_command_63
      have q2 : (oN k = 2) ↔ k = 2 := kN_eq (k := k) (m := 2) (by omega) (by omega)
      have q7 : (oN k = 7) ↔ k = 7 := kN_eq (k := k) (m := 7) (by omega) (by omega)
      rw [if_pos z, if_neg (fun g => by have := q2.mp g; omega), if_neg (fun g => by have := q7.mp g; omega)]
      exact ⟨κ', rfl, Fq.refl, b3⟩
  · rw [if_neg (fun g => z (q8.mp g))]
    cases hR : rF T n [d0] p with
    | error e =>
      rw [hR] at b3
      rw [if_neg (by rw [b3.2.2]; decide), c_63e (by rw [b3.2.2]; decide)]
      exact CMp.err hR b2 b3
    | ok w =>
      obtain ⟨p', as⟩ := w
      rw [hR] at b3
      obtain ⟨b3, rfl⟩ := b3
      rw [b3.2.2, if_pos rfl]
      exact CMp.app hR b2 (m_59 hi (by omega) b3 y)
/-- the model reads a command from p -/
theorem m_command (hi : ∀ a b, ad a = ad b → a = b) (hW : MW ad κ) (h : SM ad κ T n p 0) : match rK T n p 10 0 p with
    | .error e => ∃ κ', P_X7_command κ (ad 20) = some κ' ∧ Fw ad κ κ' ∧ SM ad κ' T n e 1
    | .ok (k, p', as) => ∃ κ', P_X7_command κ (ad 20) = P_X7_command_99 κ' (ad 20) (oN k) (as.getD 1 0) (as.getD 2 0) (as.getD 0 0) ∧ Fw ad κ κ' ∧ SM ad κ' T n p' 0 := by
  obtain ⟨r, κ1, a1, a2, a3⟩ := m_word hi hW h
  rcases a3 with ⟨k, k1, k2, k3, k4⟩ | ⟨i, i1, i2, i3, i4, i5⟩
  · rw [rK_A k1 k2]
    subst k3
    have hc := m_28 hi k1 k4
    have e : P_X7_command κ (ad 20) = (if 4 ≤ oN k then P_X7_command_28 κ1 (ad 20) (oN k) 0 0 3 (ad 20) else P_X7_command_28 κ1 (ad 20) (oN k) 0 0 1 (ad 20)) := by
      unfold P_X7_command
      rw [a1, bd2_s, k4.2.2, if_pos rfl]
    rw [e]
    cases hR : rF T n (ar k) (p + wl k) with
    | error e =>
      rw [hR] at hc
      obtain ⟨κ', c1, c2, c3⟩ := hc
      exact ⟨κ', c1, a2.trans c2.w, c3⟩
    | ok w =>
      obtain ⟨p', as⟩ := w
      rw [hR] at hc
      obtain ⟨κ', c1, c2, c3⟩ := hc
      exact ⟨κ', c1, a2.trans c2.w, c3⟩
  · rw [rK_B i1 i2 i3]
    refine ⟨κ1, ?_, a2, i5⟩
    unfold P_X7_command
    rw [a1, bd2_s, if_neg (by rw [i5.2.2]; decide)]
end CMDM
