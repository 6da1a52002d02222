/-! ===== layer 3: the model reads a script, then does it ===== -/
section PASSES
variable {ad : Nat → Nat} {κ κ1 κ2 : jKt} {T : Nat → Int32} {n p : Nat} {pr tr : Nat} {pa : Nat → Nat} {su : Nat → Nat → Nat}
theorem rF_ok : ∀ (G : List Int32) (p p' : Nat) (as : List Int32), rF T n G p = .ok (p', as) → p ≤ p' ∧ (p ≤ n → p' ≤ n) := by
  intro G
  induction G with
  | nil => intro p p' as h; rw [rF] at h; injection h with h; injection h with h1 h2; rw [← h1]; exact ⟨Nat.le_refl _, fun h => h⟩
  | cons c G ih =>
    intro p p' as h
    have hge := eS_ge (T := T) (n := n) c p
    rw [rF] at h
    by_cases z : eS T n c p = p
    · rw [if_pos z] at h; cases h
    · rw [if_neg z] at h
      cases hR : rF T n G (eS T n c p) with
      | error e => rw [hR] at h; cases h
      | ok w =>
        obtain ⟨p2, as2⟩ := w
        rw [hR] at h
        have hl := ih _ _ _ hR
        injection h with h
        injection h with h1 h2
        rw [← h1]
        exact ⟨by omega, fun g => hl.2 (hge.2 g)⟩
theorem rF_ok1 {G : List Int32} {p p' : Nat} {as : List Int32} (hG : G ≠ []) (h : rF T n G p = .ok (p', as)) : p + 1 ≤ p' := by
  cases G with
  | nil => exact absurd rfl hG
  | cons c G =>
    have hge := eS_ge (T := T) (n := n) c p
    rw [rF] at h
    by_cases z : eS T n c p = p
    · rw [if_pos z] at h; cases h
    · rw [if_neg z] at h
      cases hR : rF T n G (eS T n c p) with
      | error e => rw [hR] at h; cases h
      | ok w =>
        obtain ⟨p2, as2⟩ := w
        rw [hR] at h
        have hl := rF_ok _ _ _ _ hR
        injection h with h
        injection h with h1 h2
        omega
theorem fm_ne : ∀ k, k < 10 → fm k ≠ [] := by decide +kernel
theorem Fw.ki (h : Fw ad κ κ1) {m j : Nat} (h1 : ¬ (m = 20 ∧ (j = 17 ∨ j = 20))) (h2 : m ≠ 29) : kI κ1 (ad m) j = kI κ (ad m) j := by
  unfold kI
  rw [h m j h1 h2]
/-- the first pass: the script is read, nothing is done -/
theorem m_pass1 (hi : ∀ a b, ad a = ad b → a = b) : ∀ (q f p : Nat) (κ : jKt) (c : Int32), ((q = 0 → 61 ≤ p) ∧ 60 ≤ p + q) → q < f → MW ad κ → SM ad κ T n p 0 → kI κ (ad 20) 21 = 0 → kI κ (ad 20) 0 = 0 →
    ∃ y κ', (bd (P_X7_command κ (ad 20)) fun κ1 => P_X7_commands_16 (ad 20) f κ1 c) = some (y, κ') ∧ Fw ad κ κ' ∧ match rA T n q p with
      | .error e => SM ad κ' T n e 1
      | .ok _ => kI κ' (ad 20) 20 = 0 := by
  intro q
  induction q with
  | zero =>
    intro f p κ c g1 g2 hW hS h21 h0
    have := hS.1.1
    have := hS.1.2.1
    have := g1.1 rfl
    omega
  | succ q ih =>
    intro f p κ c g1 g2 hW hS h21 h0
    obtain ⟨f, rfl⟩ : ∃ g, f = g + 1 := ⟨f - 1, by omega⟩
    have hn := hS.1.1
    have hc := m_command hi hW hS
    rw [rA]
    cases hR : rK T n p 10 0 p with
    | error e =>
      rw [hR] at hc
      obtain ⟨κ1, c1, c2, c3⟩ := hc
      rw [c1, bd_s, P_X7_commands_16, if_neg (by rw [c3.2.2]; decide)]
      exact ⟨c, κ1, rfl, c2, c3⟩
    | ok w =>
      obtain ⟨k, p', as⟩ := w
      rw [hR] at hc
      obtain ⟨κ1, c1, c2, c3⟩ := hc
      have hpp := rF_ok1 (fm_ne k (by have := (rK_ok _ _ _ _ _ _ hR).2; omega)) (rK_ok _ _ _ _ _ _ hR).1
      have z21 : kI κ1 (ad 20) 21 = 0 := by rw [c2.ki (by omega) (by omega)]; exact h21
      have z0 : kI κ1 (ad 20) 0 = 0 := by rw [c2.ki (by omega) (by omega)]; exact h0
      have e99 : P_X7_command_99 κ1 (ad 20) (oN k) (as.getD 1 0) (as.getD 2 0) (as.getD 0 0) = some κ1 := by
        unfold P_X7_command_99
        rw [c3.2.2, if_pos rfl, z21, if_pos rfl]
      have h18 : kI κ1 (ad 20) 18 = oN n := c3.1.2.2.2.1
      have h17 : kI κ1 (ad 20) 17 = oN p' := c3.2.1
      have hpn := c3.1.2.1
      rw [c1, e99, bd_s, P_X7_commands_16, c3.2.2, if_pos rfl, z0, if_pos rfl, h18, h17]
      simp only []
      by_cases z : p' < n
      · rw [if_neg (fun g => by have := (oN_le (by omega) (by omega)).mp g; omega), if_pos z]
        obtain ⟨κ2, d1, d2, d3⟩ := m_mark hi c3 (c := 59) (by decide)
        rw [d1, bd_s]
        by_cases y : T p' = 59
        · rw [if_pos ⟨z, y⟩] at d3
          rw [if_pos y, d3.2.2, if_pos rfl]
          obtain ⟨r, κ', b1, b2, b3⟩ := ih f (p' + 1) κ2 (c + 1) (by omega) (by omega) (hW.w (c2.trans d2.w)) d3 (by rw [d2.w.ki (by omega) (by omega)]; exact z21) (by rw [d2.w.ki (by omega) (by omega)]; exact z0)
          refine ⟨r, κ', b1, (c2.trans d2.w).trans b2, ?_⟩
          cases hR2 : rA T n q (p' + 1) with
          | error e => rw [hR2] at b3; exact b3
          | ok l => rw [hR2] at b3; exact b3
        · rw [if_neg (fun g => y g.2)] at d3
          rw [if_neg y, d3.2.2, if_neg (by decide)]
          obtain ⟨f, rfl⟩ : ∃ g, f = g + 1 := ⟨f - 1, by omega⟩
          rw [P_X7_commands_16, if_neg (by rw [d3.2.2]; decide)]
          exact ⟨_, κ2, rfl, c2.trans d2.w, d3⟩
      · rw [if_pos ((oN_le (by omega) (by omega)).mpr (by omega)), if_neg z]
        exact ⟨c, κ1, rfl, c2, c3.2.2⟩
/-- the second pass changes the row, and what is thrown, too -/
def FPs (ad : Nat → Nat) (κ κ' : jKt) : Prop := ∀ m j, ¬ (m = 20 ∧ (j = 0 ∨ j = 17 ∨ j = 20)) → m ≠ 29 → m ≠ 21 → κ' (ad m) j = κ (ad m) j
theorem FPs.trans (h : FPs ad κ κ1) (g : FPs ad κ1 κ2) : FPs ad κ κ2 := fun m j a b c => (g m j a b c).trans (h m j a b c)
theorem Fw.v (h : Fw ad κ κ1) : FPs ad κ κ1 := fun m j a b _ => h m j (by omega) b
theorem FM.v (h : FM ad κ κ1) : FPs ad κ κ1 := fun m j a _ c => h m j c (by omega)
theorem FPs.ki (h : FPs ad κ κ1) {m j : Nat} (h1 : ¬ (m = 20 ∧ (j = 0 ∨ j = 17 ∨ j = 20))) (h2 : m ≠ 29) (h3 : m ≠ 21) : kI κ1 (ad m) j = kI κ (ad m) j := by
  unfold kI
  rw [h m j h1 h2 h3]
theorem FPs.pt (h : FPs ad κ κ1) (hP : PT ad κ pr tr pa su) : PT ad κ1 pr tr pa su := PT_K hP (fun b k hb => by
  unfold kR
  rw [h b k (fun g => hb (by rw [g.1]; exact iSl_20 (by omega))) (fun g => hb (iSl_21 k (by omega))) (fun g => hb (iSl_21 k (by omega)))])
theorem MW.v (h : MW ad κ) (f : FPs ad κ κ1) : MW ad κ1 := by
  obtain ⟨h1, h2, h3, h4, h5⟩ := h
  refine ⟨?_, ?_, ?_, fun i hi => ?_, fun i hi => ?_⟩
  · unfold kR at *; rw [f 20 13 (by omega) (by omega) (by omega)]; exact h1
  · unfold kR at *; rw [f 20 14 (by omega) (by omega) (by omega)]; exact h2
  · unfold kR at *; rw [f 20 15 (by omega) (by omega) (by omega)]; exact h3
  · have := h4 i hi; unfold iS at *; rw [f.ki (by omega) (by omega) (by omega)]; exact this
  · have := h5 i hi; unfold iS at *; rw [f.ki (by omega) (by omega) (by omega)]; exact this
theorem SM.m {p : Nat} {e : Int32} (h : SM ad κ T n p e) (f : FM ad κ κ1) : SM ad κ1 T n p e := by
  obtain ⟨⟨h1, h2, h3, h4, h5⟩, h6, h7⟩ := h
  refine ⟨⟨h1, h2, ?_, ?_, fun i hi => ?_⟩, ?_, ?_⟩
  · unfold kR at *; rw [f 20 11 (by omega) (by omega)]; exact h3
  · unfold kI at *; rw [f 20 18 (by omega) (by omega)]; exact h4
  · have := h5 i hi; unfold kI at *; rw [f 27 i (by omega) (by omega)]; exact this
  · unfold kI at *; rw [f 20 17 (by omega) (by omega)]; exact h6
  · unfold kI at *; rw [f 20 20 (by omega) (by omega)]; exact h7
/-- the second pass: the commands are done -/
theorem m_pass2 (hi : ∀ a b, ad a = ad b → a = b) : ∀ (q f p t : Nat) (κ : jKt) (v : Nat → Int32) (K : Nat) (l : List (Nat × List Int32)), rA T n q p = .ok l → q < f → t + q < 1000 → MW ad κ → SM ad κ T n p 0 → kI κ (ad 20) 21 = 1 → kI κ (ad 20) 0 = 0 → PT ad κ pr tr pa su → (∀ j, iS ad κ 21 j = v j) → GX v K → K + q < 2 ^ 30 →
    ∃ y κ', (bd (P_X7_command κ (ad 20)) fun κ1 => P_X7_commands_16 (ad 20) f κ1 (oN (t + 1))) = some (y, κ') ∧ FPs ad κ κ' ∧ match rn l v t with
      | .error t' => y = oN (t' + 1) ∧ kI κ' (ad 20) 0 ≠ 0 ∧ ∃ w : Nat → Int32, (∀ j, iS ad κ' 21 j = w j) ∧ ∀ j, 457 ≤ j → w j = v j
      | .ok v' => y = oN (t + l.length) ∧ kI κ' (ad 20) 0 = 0 ∧ ∀ j, iS ad κ' 21 j = v' j := by
  intro q
  induction q with
  | zero => intro f p t κ v K l h; rw [rA] at h; cases h
  | succ q ih =>
    intro f p t κ v K l hA g2 gt hW hS h21 h0 hP hv hX hK
    obtain ⟨f, rfl⟩ : ∃ g, f = g + 1 := ⟨f - 1, by omega⟩
    have hn := hS.1.1
    have hc := m_command hi hW hS
    rw [rA] at hA
    cases hR : rK T n p 10 0 p with
    | error e => rw [hR] at hA; cases hA
    | ok w =>
      obtain ⟨k, p', as⟩ := w
      rw [hR] at hA hc
      simp only [] at hA
      obtain ⟨κ1, c1, c2, c3⟩ := hc
      have hpp := rF_ok _ _ _ _ (rK_ok _ _ _ _ _ _ hR).1
      have hk10 : k < 10 := by have := (rK_ok _ _ _ _ _ _ hR).2; omega
      have z21 : kI κ1 (ad 20) 21 = 1 := by rw [c2.ki (by omega) (by omega)]; exact h21
      have z0 : kI κ1 (ad 20) 0 = 0 := by rw [c2.ki (by omega) (by omega)]; exact h0
      have hP1 := c2.v.pt hP
      have hv1 : ∀ j, iS ad κ1 21 j = v j := fun j => by unfold iS; rw [c2.ki (by omega) (by omega)]; exact hv j
      obtain ⟨r, κ2, d1, d2, d3⟩ := m_does hi hP1 hv1 hX hk10 (as.getD 0 0) (as.getD 1 0) (as.getD 2 0)
      have e99 : P_X7_command_99 κ1 (ad 20) (oN k) (as.getD 1 0) (as.getD 2 0) (as.getD 0 0) = some κ2 := by
        unfold P_X7_command_99
        rw [c3.2.2, if_pos rfl, z21, if_neg (by decide), d1, bd2_s]
      have s2 := c3.m d2
      have h18 : kI κ2 (ad 20) 18 = oN n := s2.1.2.2.2.1
      have h17 : kI κ2 (ad 20) 17 = oN p' := s2.2.1
      have hpn := s2.1.2.1
      have fv := c2.v.trans d2.v
      rw [c1, e99, bd_s, P_X7_commands_16, s2.2.2, if_pos rfl]
      -- the list goes on with this command
      have hl : ∃ l', l = (k, as) :: l' ∧ ((p' < n ∧ T p' = 59 ∧ rA T n q (p' + 1) = .ok l') ∨ (¬ p' < n ∧ l' = [])) := by
        by_cases z : p' < n
        · rw [if_pos z] at hA
          by_cases y : T p' = 59
          · rw [if_pos y] at hA
            cases hR2 : rA T n q (p' + 1) with
            | error e => rw [hR2] at hA; cases hA
            | ok l' =>
              rw [hR2] at hA
              injection hA with hA
              exact ⟨l', hA.symm, Or.inl ⟨z, y, rfl⟩⟩
          · rw [if_neg y] at hA; cases hA
        · rw [if_neg z] at hA
          injection hA with hA
          exact ⟨[], hA.symm, Or.inr ⟨z, rfl⟩⟩
      obtain ⟨l', rfl, hl'⟩ := hl
      rw [rn]
      cases hres : oK k v (as.getD 0 0) (as.getD 1 0) (as.getD 2 0) with
      | error e =>
        rw [hres] at d3
        obtain ⟨e1, e2, e3⟩ := d3
        have n0 : kI κ2 (ad 20) 0 ≠ 0 := by
          have : kI κ2 (ad 20) 0 = thk k e := e3
          rw [this]; exact thk_ne k e
        rw [if_neg n0]
        exact ⟨_, κ2, rfl, fv, rfl, n0, v, e2, fun _ _ => rfl⟩
      | ok pp =>
        obtain ⟨x, v1⟩ := pp
        rw [hres] at d3
        obtain ⟨e1, e2, e3⟩ := d3
        have n0 : kI κ2 (ad 20) 0 = 0 := by
          have : kI κ2 (ad 20) 0 = kI κ1 (ad 20) 0 := e3
          rw [this]; exact z0
        obtain ⟨i1, i2⟩ := IK hX (by omega) hres
        rw [n0, if_pos rfl, h18, h17]
        simp only []
        rcases hl' with ⟨z, y, hA2⟩ | ⟨z, rfl⟩
        · obtain ⟨κ3, b1, b2, b3⟩ := m_mark hi s2 (c := 59) (by decide)
          rw [if_pos ⟨z, y⟩] at b3
          rw [if_neg (fun g => by have := (oN_le (by omega) (by omega)).mp g; omega), b1, bd_s, b3.2.2, if_pos rfl, show (oN (t + 1) + 1 : Int32) = oN (t + 1 + 1) from oN_add _ 1]
          have fv3 := fv.trans b2.w.v
          have hP2 := fv3.pt hP
          obtain ⟨yy, κ', a1, a2, a3⟩ := ih f (p' + 1) (t + 1) κ3 v1 (K + 1) l' hA2 (by omega) (by omega) (hW.v fv3) b3 (by rw [fv3.ki (by omega) (by omega) (by omega)]; exact h21) (by rw [b2.w.ki (by omega) (by omega)]; exact n0) hP2 (fun j => by unfold iS; rw [b2.w.ki (by omega) (by omega)]; exact e2 j) i1 (by omega)
          refine ⟨yy, κ', a1, fv3.trans a2, ?_⟩
          cases hR3 : rn l' v1 (t + 1) with
          | error t' =>
            rw [hR3] at a3
            obtain ⟨f1, f2, w, f3, f4⟩ := a3
            exact ⟨f1, f2, w, f3, fun j hj => (f4 j hj).trans (HK hk10 hX hres hj)⟩
          | ok v' =>
            rw [hR3] at a3
            obtain ⟨f1, f2, f3⟩ := a3
            refine ⟨?_, f2, f3⟩
            rw [f1, List.length_cons]
            congr 1
            omega
        · rw [if_pos ((oN_le (by omega) (by omega)).mpr (by omega))]
          exact ⟨_, κ2, rfl, fv, rfl, n0, e2⟩
end PASSES
