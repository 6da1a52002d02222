/-! ===== where the cells are at the start; the first state ===== -/
def lyI (n : Nat) : Bool := decide (n < 13 ∨ (20 ≤ n ∧ n < 32) ∨ n = 40 ∨ n = 41 ∨ (100 ≤ n ∧ n < 650 ∧ (n - 100) % 50 < 38))
def lyP (n : Nat) : Nat := if n = 0 then 0 else if n < 13 then 114 + n else if n < 32 then 411 + n else if n < 42 then 403 + n else if n < 150 then n - 99 else if n < 200 then n - 111 else if 600 ≤ n then n - 523 else 51 + 38 * ((n - 100) / 50) + (n - 100) % 50
def lyQ (i : Nat) : Nat := if i = 0 then 0 else if i < 39 then i + 99 else if i < 77 then i + 111 else if i < 115 then i + 523 else if i < 127 then i - 114 else if i < 431 then 200 + 50 * ((i - 127) / 38) + (i - 127) % 38 else if i < 443 then i - 411 else i - 403
theorem lyP_b {n : Nat} (h : lyI n = true) : lyP n < 445 := by
  have h := of_decide_eq_true h
  unfold lyP
  (repeat' split) <;> omega
theorem lyQ_P {n : Nat} (h : lyI n = true) : lyQ (lyP n) = n := by
  have h := of_decide_eq_true h
  rcases (show n = 0 ∨ (0 < n ∧ n < 13) ∨ (20 ≤ n ∧ n < 32) ∨ (n = 40 ∨ n = 41) ∨ (100 ≤ n ∧ n < 138) ∨ (150 ≤ n ∧ n < 188) ∨ (600 ≤ n ∧ n < 638) ∨ (200 ≤ n ∧ n < 600 ∧ (n - 100) % 50 < 38) from by omega) with z | z | z | z | z | z | z | z
  · subst z; rfl
  · have e : lyP n = 114 + n := by unfold lyP; rw [if_neg (by omega), if_pos (by omega)]
    rw [e]; unfold lyQ
    rw [if_neg (by omega), if_neg (by omega), if_neg (by omega), if_neg (by omega), if_pos (by omega)]; omega
  · have e : lyP n = 411 + n := by unfold lyP; rw [if_neg (by omega), if_neg (by omega), if_pos (by omega)]
    rw [e]; unfold lyQ
    rw [if_neg (by omega), if_neg (by omega), if_neg (by omega), if_neg (by omega), if_neg (by omega), if_neg (by omega), if_pos (by omega)]; omega
  · rcases z with z | z <;> subst z <;> rfl
  · have e : lyP n = n - 99 := by unfold lyP; rw [if_neg (by omega), if_neg (by omega), if_neg (by omega), if_neg (by omega), if_pos (by omega)]
    rw [e]; unfold lyQ
    rw [if_neg (by omega), if_pos (by omega)]; omega
  · have e : lyP n = n - 111 := by unfold lyP; rw [if_neg (by omega), if_neg (by omega), if_neg (by omega), if_neg (by omega), if_neg (by omega), if_pos (by omega)]
    rw [e]; unfold lyQ
    rw [if_neg (by omega), if_neg (by omega), if_pos (by omega)]; omega
  · have e : lyP n = n - 523 := by unfold lyP; rw [if_neg (by omega), if_neg (by omega), if_neg (by omega), if_neg (by omega), if_neg (by omega), if_neg (by omega), if_pos (by omega)]
    rw [e]; unfold lyQ
    rw [if_neg (by omega), if_neg (by omega), if_neg (by omega), if_pos (by omega)]; omega
  · have e : lyP n = 51 + 38 * ((n - 100) / 50) + (n - 100) % 50 := by unfold lyP; rw [if_neg (by omega), if_neg (by omega), if_neg (by omega), if_neg (by omega), if_neg (by omega), if_neg (by omega), if_neg (by omega)]
    rw [e]; unfold lyQ
    rw [if_neg (by omega), if_neg (by omega), if_neg (by omega), if_neg (by omega), if_neg (by omega), if_pos (by omega)]; omega
theorem ly_room {r t : Nat} (hr : r < 11) (ht : t < 38) : lyI (bR r + t) = true ∧ lyP (bR r + t) = lyP (bR r) + t := by
  refine ⟨decide_eq_true (by unfold bR; omega), ?_⟩
  unfold bR
  have e : (100 + 50 * r + t - 100) / 50 = r ∧ (100 + 50 * r + t - 100) % 50 = t ∧ (100 + 50 * r - 100) / 50 = r ∧ (100 + 50 * r - 100) % 50 = 0 := by omega
  unfold lyP
  rw [e.1, e.2.1, e.2.2.1, e.2.2.2]
  (repeat' split) <;> omega
theorem ly_past {i : Nat} (h : i < 8) : lyP (bR (i + 2)) = 127 + 38 * i := by
  unfold lyP bR
  rw [if_neg (by omega), if_neg (by omega), if_neg (by omega), if_neg (by omega), if_neg (by omega), if_neg (by omega), if_neg (by omega)]
  omega
theorem bnd_f (f : Nat → Nat) : ∀ n, ∃ B, ∀ i, i < n → f i < B := by
  intro n
  induction n with
  | zero => exact ⟨0, fun i h => absurd h (Nat.not_lt_zero _)⟩
  | succ n ih =>
    obtain ⟨B, hB⟩ := ih
    refine ⟨B + f n + 1, fun i hi => ?_⟩
    by_cases z : i = n
    · subst z; omega
    · have := hB i (by omega); omega
def adF (f : Nat → Nat) (B n : Nat) : Nat := if lyI n = true then f (lyP n) else B + n
theorem adF_i {f : Nat → Nat} {B : Nat} (hB : ∀ i, i < 445 → f i < B) (hf : ∀ i j, i < 445 → j < 445 → f i = f j → i = j) : ∀ a b, adF f B a = adF f B b → a = b := by
  intro a b h
  unfold adF at h
  by_cases z1 : lyI a = true
  · rw [if_pos z1] at h
    have b1 := hB _ (lyP_b z1)
    by_cases z2 : lyI b = true
    · rw [if_pos z2] at h
      have e := hf _ _ (lyP_b z1) (lyP_b z2) h
      have e1 := lyQ_P z1
      rw [e, lyQ_P z2] at e1
      exact e1.symm
    · rw [if_neg z2] at h; omega
  · rw [if_neg z1] at h
    by_cases z2 : lyI b = true
    · rw [if_pos z2] at h
      have b2 := hB _ (lyP_b z2)
      omega
    · rw [if_neg z2] at h; omega
theorem adF_v {f : Nat → Nat} {B : Nat} {n : Nat} (i : Nat) (h : lyI n = true) (e : lyP n = i) : adF f B n = f i := by
  unfold adF
  rw [if_pos h, e]
theorem kR_of {κ : jKt} {a j x : Nat} (h : κ a j = .ref x) : kR κ a j = x := by unfold kR; rw [h]
theorem kI_of {κ : jKt} {a j : Nat} {x : Int32} (h : κ a j = .int x) : kI κ a j = x := by unfold kI; rw [h]
theorem z_GX : GX (fun _ => 0) 0 := by
  have hn : nn (fun _ => 0) 0 = 0 := rfl
  have hn1 : nn (fun _ => 0) 1 = 0 := rfl
  refine ⟨GR_iff.mpr ⟨⟨rfl, by decide, by decide⟩, ⟨rfl, by decide, by decide⟩, fun c hc => absurd hc (by rw [hn]; exact Nat.not_lt_zero _), fun c hc => absurd hc (by rw [hn1]; exact Nat.not_lt_zero _)⟩, fun c _ => ⟨rfl, Nat.zero_le _, by show (0 : Nat) ≤ 2000; decide⟩, ⟨rfl, Nat.le_refl _⟩, fun s hs => absurd hs (by rw [hn1]; exact Nat.not_lt_zero _), fun s t _ hs => absurd hs (by rw [hn1]; exact Nat.not_lt_zero _)⟩
theorem first_INV {f : Nat → Nat} {V : Nat → Nat → Value} {κ : jKt} (hf : ∀ i j, i < 445 → j < 445 → f i = f j → i = j) (hκ : ∀ i, i < 445 → ∀ k, κ (f i) k = V i k) (hQ : xQ f V) (hR : ∀ i, i < 8 → xR f V i) (hM : mQ f V) : ∃ ad : Nat → Nat, (∀ a b, ad a = ad b → a = b) ∧ (ad 0 = f 0 ∧ ad 20 = f 431 ∧ ad 40 = f 443 ∧ ad 41 = f 444) ∧ INV ad κ 0 := by
  obtain ⟨B, hB⟩ := bnd_f f 445
  refine ⟨adF f B, adF_i hB hf, ⟨adF_v 0 rfl rfl, adF_v 431 rfl rfl, adF_v 443 rfl rfl, adF_v 444 rfl rfl⟩, ?_⟩
  have av : ∀ {n : Nat} (i : Nat), lyI n = true → lyP n = i → adF f B n = f i := fun i h e => adF_v i h e
  have kv : ∀ {n : Nat} (i : Nat) (j : Nat), lyI n = true → lyP n = i → κ (adF f B n) j = V i j := fun {n} i j h e => by
    rw [av i h e, hκ i (by rw [← e]; exact lyP_b h)]
  have ra : ∀ r, r < 11 → ∀ t, t < 38 → adF f B (bR r + t) = f (lyP (bR r) + t) := fun r hr t ht => av _ (ly_room hr ht).1 (ly_room hr ht).2
  have rv : ∀ r, r < 11 → ∀ t, t < 38 → ∀ j, κ (adF f B (bR r + t)) j = V (lyP (bR r) + t) j := fun r hr t ht j => kv _ j (ly_room hr ht).1 (ly_room hr ht).2
  obtain ⟨⟨q0, q1, q2, q3, q4, q5, q6, q7, q8, q9, q10⟩, ⟨w1, w39, w77⟩, hF, hS, hT⟩ := hQ
  obtain ⟨⟨m2, m3, m1, m4, m16, m19⟩, mA, mZ, mW, mX⟩ := hM
  have hW : ∀ r, r < 11 → wR f V (lyP (bR r)) := by
    intro r hr
    rcases (show r = 0 ∨ r = 1 ∨ r = 10 ∨ ∃ i, i < 8 ∧ r = i + 2 from by
      by_cases z : r = 0
      · exact Or.inl z
      · by_cases z1 : r = 1
        · exact Or.inr (Or.inl z1)
        · by_cases z2 : r = 10
          · exact Or.inr (Or.inr (Or.inl z2))
          · exact Or.inr (Or.inr (Or.inr ⟨r - 2, by omega, by omega⟩))) with z | z | z | ⟨i, i1, z⟩ <;> subst z
    · exact w1
    · exact w39
    · exact w77
    · rw [ly_past i1]; exact (hR i i1).2
  have rI : ∀ {n : Nat} (i : Nat) (j : Nat) {x : Int32}, lyI n = true → lyP n = i → V i j = .int x → iS (adF f B) κ n j = x := fun {n} i j {x} h e hx => kI_of ((kv i j h e).trans hx)
  have rR : ∀ {n n' : Nat} (i i' : Nat) (j : Nat), lyI n = true → lyP n = i → V i j = .ref (f i') → lyI n' = true → lyP n' = i' → kR κ (adF f B n) j = adF f B n' := fun {n n'} i i' j h e hx h' e' => (kR_of ((kv i j h e).trans hx)).trans (av i' h' e').symm
  have hPT : PT (adF f B) κ 0 1 (fun i => i + 2) (fun _ i => i) := by
    refine ⟨⟨?_, ?_, ?_, ?_, ?_, ?_, ?_⟩, fun i hi => ?_, ⟨?_, ?_, ?_, ?_, ?_⟩, ⟨?_, ?_, ?_⟩, fun k hk => ?_, fun r hr => ?_⟩
    · exact rR 0 1 0 rfl rfl q0 rfl rfl
    · exact rR 0 39 1 rfl rfl q1 rfl rfl
    · exact rR 0 77 2 rfl rfl q2 rfl rfl
    · exact rR 0 115 4 rfl rfl q4 rfl rfl
    · exact rR 0 116 6 rfl rfl q6 rfl rfl
    · exact rR 0 122 7 rfl rfl q7 rfl rfl
    · exact rR 0 126 10 rfl rfl q10 rfl rfl
    · exact rR 115 (127 + 38 * i) i rfl rfl (hR i hi).1 (ly_room (r := i + 2) (t := 0) (by omega) (by decide)).1 (ly_past hi)
    · exact rR 116 117 0 rfl rfl hF.1.1 rfl rfl
    · exact rR 116 118 1 rfl rfl hF.1.2.1 rfl rfl
    · exact rR 116 119 2 rfl rfl hF.1.2.2.1 rfl rfl
    · exact rR 116 120 3 rfl rfl hF.1.2.2.2.1 rfl rfl
    · exact rR 120 121 0 rfl rfl hF.1.2.2.2.2.1 rfl rfl
    · exact rR 122 123 0 rfl rfl hS.1.1 rfl rfl
    · exact rR 122 124 2 rfl rfl hS.1.2.2.1 rfl rfl
    · exact rR 122 125 3 rfl rfl hS.1.2.2.2.1 rfl rfl
    · refine rR 431 (432 + k) (5 + k) rfl rfl (mA k hk) (decide_eq_true (by omega)) ?_
      unfold lyP
      rw [if_neg (by omega), if_neg (by omega), if_pos (by omega)]
      omega
    · obtain ⟨⟨a0, a1, a2, a3, a4, a5⟩, cs, us⟩ := hW r hr
      have rr : ∀ t t' j, t < 38 → t' < 38 → V (lyP (bR r) + t) j = .ref (f (lyP (bR r) + t')) → kR κ (adF f B (bR r + t)) j = adF f B (bR r + t') := fun t t' j h h' hx => (kR_of ((rv r hr t h j).trans hx)).trans (ra r hr t' h').symm
      refine ⟨⟨rr 0 1 0 (by omega) (by omega) a0, rr 0 2 1 (by omega) (by omega) a1, rr 0 3 3 (by omega) (by omega) a3⟩, fun i hi => ⟨?_, ?_⟩, fun i hi => ⟨?_, hi⟩, fun k hk => ⟨?_, ?_, ?_⟩⟩
      · have := rr 2 (4 + 2 * i) i (by omega) (by omega) (cs i hi).1
        rw [show bR r + (4 + 2 * i) = bR r + 4 + 2 * i from by omega] at this; exact this
      · have := rr (4 + 2 * i) (5 + 2 * i) 1 (by omega) (by omega) (cs i hi).2.2.1
        rw [show bR r + (4 + 2 * i) = bR r + 4 + 2 * i from by omega, show bR r + (5 + 2 * i) = bR r + 5 + 2 * i from by omega] at this; exact this
      · have := rr 3 (14 + 4 * i) i (by omega) (by omega) (us i hi).1
        rw [show bR r + (14 + 4 * i) = bR r + 14 + 4 * i from by omega] at this; exact this
      · have := rr (14 + 4 * k) (15 + 4 * k) 5 (by omega) (by omega) (us k hk).2.2.1
        rw [show bR r + (14 + 4 * k) = bR r + 14 + 4 * k from by omega, show bR r + (15 + 4 * k) = bR r + 15 + 4 * k from by omega] at this; exact this
      · have := rr (14 + 4 * k) (16 + 4 * k) 6 (by omega) (by omega) (us k hk).2.2.2.1
        rw [show bR r + (14 + 4 * k) = bR r + 14 + 4 * k from by omega, show bR r + (16 + 4 * k) = bR r + 16 + 4 * k from by omega] at this; exact this
      · have := rr (14 + 4 * k) (17 + 4 * k) 7 (by omega) (by omega) (us k hk).2.2.2.2.1
        rw [show bR r + (14 + 4 * k) = bR r + 14 + 4 * k from by omega, show bR r + (17 + 4 * k) = bR r + 17 + 4 * k from by omega] at this; exact this
  have ri : ∀ t j, t < 38 → ∀ {x : Int32}, V (1 + t) j = .int x → iS (adF f B) κ (bR 0 + t) j = x := fun t j ht {x} hx => kI_of ((rv 0 (by omega) t ht j).trans hx)
  refine ⟨⟨fun _ => 0, 0, fun _ _ => 0, 0, fun _ => 0, ⟨0, 1, fun i => i + 2, fun _ i => i, ⟨hPT, ⟨by omega, by omega, by omega⟩, fun i hi => ⟨by show i + 2 < 10; omega, by show i + 2 ≠ 0; omega, by show i + 2 ≠ 1; omega⟩, fun i j _ _ h => by have : i + 2 = j + 2 := h; omega, fun _ _ i k _ _ h => h, by omega, rI 0 5 rfl rfl q5⟩, ?_, fun i hi => absurd hi (Nat.not_lt_zero _), rI 0 3 rfl rfl q3, fun h => absurd rfl h⟩, ?_, ?_⟩, ?_, ?_, ?_, ?_⟩
  · obtain ⟨⟨a0, a1, a2, a3, a4, a5⟩, cs, us⟩ := w1
    have hn : nn (fun _ => 0) 0 = 0 := rfl
    have hn1 : nn (fun _ => 0) 1 = 0 := rfl
    refine ⟨fun c hc => ri 1 c (by omega) (a5 c), ⟨ri 0 2 (by omega) a2, ri 0 4 (by omega) (a4 4 (by omega) (by omega)), ri 0 5 (by omega) (a4 5 (by omega) (by omega)), ri 0 6 (by omega) (a4 6 (by omega) (by omega)), ri 0 7 (by omega) (a4 7 (by omega) (by omega)), ri 0 8 (by omega) (a4 8 (by omega) (by omega)), ri 0 9 (by omega) (a4 9 (by omega) (by omega)), ri 0 10 (by omega) (a4 10 (by omega) (by omega))⟩, fun c hc => absurd hc (by rw [hn]; exact Nat.not_lt_zero _), fun c hc => absurd hc (by rw [hn1]; exact Nat.not_lt_zero _), fun i k _ _ h => h⟩
  · exact ⟨fun j => rI 432 j rfl rfl (mZ 1 j (by omega) (by omega)), rI 431 1 rfl rfl m1, fun i hi => absurd hi (Nat.not_lt_zero _), rI 431 4 rfl rfl m4, fun h => absurd rfl h⟩
  · exact ⟨z_GX, fun i hi => absurd hi (Nat.not_lt_zero _), fun h => absurd rfl h⟩
  · have e1 := rI (n := 0) 0 8 rfl rfl q8
    have e2 := rI (n := 0) 0 9 rfl rfl q9
    have e3 := rI (n := 20) 431 2 rfl rfl m2
    have e4 := rI (n := 20) 431 3 rfl rfl m3
    exact ⟨⟨e1.trans e3.symm, Or.inl e1⟩, e2.trans e4.symm, Or.inl e2⟩
  · exact ⟨0, by omega, rI 122 1 rfl rfl hS.1.2.1, rI 431 16 rfl rfl m16, fun j hj => absurd hj (Nat.not_lt_zero _)⟩
  · refine ⟨[], by decide, fun x hx => (by cases hx), ⟨rI 126 0 rfl rfl (hT 0), ?_⟩, ⟨rI 431 19 rfl rfl m19, ?_⟩⟩
    · intro j hj; exact absurd hj (Nat.not_lt_zero _)
    · intro j hj; exact absurd hj (Nat.not_lt_zero _)
  · exact ⟨fun j hj => rI 441 j rfl rfl (mW j hj), fun j hj => rI 442 j rfl rfl (mX j hj)⟩
