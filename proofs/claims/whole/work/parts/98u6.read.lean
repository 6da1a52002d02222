/-! ===== layer 3: the class reads a script ===== -/
section READ
variable {ad : Nat → Nat} {κ κ1 κ2 : jKt} {T : Nat → Int32} {n : Nat}
theorem rF_len : ∀ (G : List Int32) (p p' : Nat) (as : List Int32), rF T n G p = .ok (p', as) → as.length = na G := by
  intro G
  induction G with
  | nil => intro p p' as h; rw [rF] at h; injection h with h; injection h with h1 h2; rw [← h2]; rfl
  | cons c G ih =>
    intro p p' as h
    rw [rF] at h
    by_cases z : eS T n c p = p
    · rw [if_pos z] at h; cases h
    · rw [if_neg z] at h
      cases hR : rF T n G (eS T n c p) with
      | error e => rw [hR] at h; cases h
      | ok w =>
        obtain ⟨p2, as2⟩ := w
        rw [hR] at h
        have hl := ih _ _ _ hR
        injection h with h
        injection h with h1 h2
        rw [na_c, ← h2]
        by_cases y : isA c = true
        · rw [if_pos y, if_pos y, List.length_cons]; omega
        · rw [if_neg y, if_neg y]; omega
theorem rK_ok {p : Nat} : ∀ (q k e k' p' : Nat) (as : List Int32), rK T n p q k e = .ok (k', p', as) → rF T n (fm k') p = .ok (p', as) ∧ k' < k + q := by
  intro q
  induction q with
  | zero => intro k e k' p' as h; rw [rK] at h; cases h
  | succ q ih =>
    intro k e k' p' as h
    rw [rK] at h
    cases hR : rF T n (fm k) p with
    | error e' =>
      rw [hR] at h
      have := ih (k + 1) _ _ _ _ h
      exact ⟨this.1, by omega⟩
    | ok w =>
      obtain ⟨p2, as2⟩ := w
      rw [hR] at h
      injection h with h
      injection h with h1 h
      injection h with h2 h3
      subst h1; subst h2; subst h3
      exact ⟨hR, by omega⟩
/-- the commands of a script from p on, at most q of them; else the place where it goes wrong -/
def rA (T : Nat → Int32) (n : Nat) : Nat → Nat → Except Nat (List (Nat × List Int32))
  | 0, p => .error p
  | q + 1, p => match rK T n p 10 0 p with
    | .error e => .error e
    | .ok (k, p', as) => if p' < n then (if T p' = 59 then (match rA T n q (p' + 1) with
        | .error e => .error e
        | .ok l => .ok ((k, as) :: l)) else .error p') else .ok [(k, as)]
def FRd (ad : Nat → Nat) (c : Nat) (κ κ' : jKt) : Prop := ∀ m j, ¬ ((m = 11 ∧ 3 * c ≤ j) ∨ (m = 10 ∧ c ≤ j) ∨ (m = 8 ∧ j = 4)) → κ' (ad m) j = κ (ad m) j
/-- the commands lie there, from the c-th on -/
def CL (ad : Nat → Nat) (κ : jKt) (c : Nat) (l : List (Nat × List Int32)) : Prop := ∀ t (ht : t < l.length), kI κ (ad 10) (c + t) = oN (l[t].1) ∧ l[t].1 < 10 ∧ l[t].2.length = na (fm l[t].1) ∧ ∀ u (hu : u < l[t].2.length), kI κ (ad 11) (3 * (c + t) + u) = l[t].2[u]
theorem CL_cons {c k : Nat} {as : List Int32} {l : List (Nat × List Int32)} (h1 : kI κ (ad 10) c = oN k) (h2 : k < 10) (h3 : as.length = na (fm k)) (h4 : ∀ u (hu : u < as.length), kI κ (ad 11) (3 * c + u) = as[u]) (h : CL ad κ (c + 1) l) : CL ad κ c ((k, as) :: l) := by
  intro t ht
  cases t with
  | zero => exact ⟨h1, h2, h3, h4⟩
  | succ t =>
    have := h t (by simpa using ht)
    rw [show c + 1 + t = c + (t + 1) from by omega] at this
    exact this
theorem c_read (hi : ∀ a b, ad a = ad b → a = b) : ∀ (q c f p : Nat) (κ : jKt), c + q = 60 → q < f → p ≤ n → SC ad κ T n → SK ad κ c →
    match rA T n q p with
    | .error e => ∃ κ', P_X2_read_9 (ad 8) f κ (oN p) (oN c) = some (oN e, κ') ∧ e ≤ n ∧ FRd ad c κ κ'
    | .ok l => ∃ κ', P_X2_read_9 (ad 8) f κ (oN p) (oN c) = some (-1, κ') ∧ FRd ad c κ κ' ∧ kI κ' (ad 8) 4 = oN (c + l.length) ∧ c + l.length ≤ 60 ∧ CL ad κ' c l := by
  intro q
  induction q with
  | zero =>
    intro c f p κ g1 g2 hp hS hK
    obtain ⟨f, rfl⟩ : ∃ g, f = g + 1 := ⟨f - 1, by omega⟩
    have hc : c = 60 := by omega
    subst hc
    refine ⟨κ, ?_, hp, fun _ _ _ => rfl⟩
    rw [P_X2_read_9, if_pos (by decide)]
  | succ q ih =>
    intro c f p κ g1 g2 hp hS hK
    obtain ⟨f, rfl⟩ : ∃ g, f = g + 1 := ⟨f - 1, by omega⟩
    have hn := hS.1
    have hc : ¬ (60 : Int32) ≤ oN c := fun h => by have := (oN_le (a := 60) (by omega) (by omega)).mp h; omega
    have hr := c_command hi (c := c) (p := p) (by omega) hp 10 0 4000 p κ (by omega) (by omega) hp hS hK
    rw [P_X2_read_9, if_neg hc, rA]
    unfold P_X2_readCommand
    cases hR : rK T n p 10 0 p with
    | error e =>
      rw [hR] at hr
      obtain ⟨κ1, r1, r2, r3⟩ := hr
      have r1' : P_X2_readCommand_4 (ad 8) (oN p) 4000 κ (oN p) 0 = some (oN e ^^^ (-1), κ1) := r1
      obtain ⟨n1, n2⟩ := ng_N e (by omega)
      simp only []
      rw [r1', bd2_s, if_neg (Int32.not_le.mpr n1), n2]
      exact ⟨κ1, rfl, r2, fun m j hm => r3 m j (by omega)⟩
    | ok w =>
      obtain ⟨k, p', as⟩ := w
      rw [hR] at hr
      obtain ⟨κ1, κ2, r1, r2, r3, r4, r5, r6⟩ := hr
      have r1' : P_X2_readCommand_4 (ad 8) (oN p) 4000 κ (oN p) 0 = some (oN p', κ2) := r1
      have hlen := rF_len _ _ _ _ (rK_ok _ _ _ _ _ _ hR).1
      have h3 := fm_na k r2
      have k4 : kI κ2 (ad 8) 4 = oN c := by rw [r6, kI_Un hi, if_neg (by omega)]; exact (hK.f r4).2.2
      have e1 : (oN c + 1 : Int32) = oN (c + 1) := oN_add _ 1
      have e2 : (oN p' + 1 : Int32) = oN (p' + 1) := oN_add _ 1
      -- the state behind this command
      have fr : FRd ad c κ (kU κ2 (ad 8) 4 (.int (oN (c + 1)))) := fun m j hm => by
        rw [r6]
        unfold kU
        rw [if_neg (fun g => hm (by have := hi _ _ g.1; omega)), if_neg (fun g => hm (by have := hi _ _ g.1; omega))]
        exact r4 m j (by omega)
      have hS3 : SC ad (kU κ2 (ad 8) 4 (.int (oN (c + 1)))) T n := by
        obtain ⟨s1, s2, s3, s4⟩ := hS
        refine ⟨s1, ?_, ?_, fun j hj => ?_⟩
        · unfold kI at *; rw [fr 8 1 (by omega)]; exact s2
        · unfold kR at *; rw [fr 8 0 (by omega)]; exact s3
        · have := s4 j hj
          unfold kI at *; rw [fr 9 j (by omega)]; exact this
      have hK3 : SK ad (kU κ2 (ad 8) 4 (.int (oN (c + 1)))) (c + 1) := by
        obtain ⟨s1, s2, s3⟩ := hK
        refine ⟨?_, ?_, by rw [kI_Un hi, if_pos ⟨rfl, rfl⟩]⟩
        · unfold kR at *; rw [fr 8 3 (by omega)]; exact s1
        · unfold kR at *; rw [fr 8 2 (by omega)]; exact s2
      have a10 : kI (kU κ2 (ad 8) 4 (.int (oN (c + 1)))) (ad 10) c = oN k := by rw [kI_Un hi, if_neg (by omega), r6, kI_Un hi, if_pos ⟨rfl, rfl⟩]
      have a11 : ∀ u (hu : u < as.length), kI (kU κ2 (ad 8) 4 (.int (oN (c + 1)))) (ad 11) (3 * c + u) = as[u] := fun u hu => by rw [kI_Un hi, if_neg (by omega), r6, kI_Un hi, if_neg (by omega)]; exact r5 u hu
      simp only []
      rw [r1', bd2_s, if_pos (Int32.not_lt.mp (oN_nneg (by omega))), k4, e1, bnd_e, hS3.2.1]
      by_cases z : p' < n
      · rw [if_pos z, if_pos ((oN_lt (by omega) (by omega)).mpr z), ck_t (jin_N (by omega) (by omega)), hS3.2.2.1, oN_ix (by omega), hS3.2.2.2 p' z, e2]
        by_cases y : T p' = 59
        · rw [if_pos y, if_pos y]
          have hq := ih (c + 1) f (p' + 1) _ (by omega) (by omega) (by omega) hS3 hK3
          cases hR2 : rA T n q (p' + 1) with
          | error e =>
            rw [hR2] at hq
            obtain ⟨κ', s1, s2, s3⟩ := hq
            exact ⟨κ', s1, s2, fun m j hm => (s3 m j (by omega)).trans (fr m j hm)⟩
          | ok l =>
            rw [hR2] at hq
            obtain ⟨κ', s1, s2, s3, s4, s5⟩ := hq
            refine ⟨κ', s1, fun m j hm => (s2 m j (by omega)).trans (fr m j hm), ?_, ?_, CL_cons ?_ r2 hlen (fun u hu => ?_) s5⟩
            · rw [s3, List.length_cons]; congr 1; omega
            · rw [List.length_cons]; omega
            · rw [← a10]; unfold kI; rw [s2 10 c (by omega)]
            · rw [← a11 u hu]; unfold kI; rw [s2 11 (3 * c + u) (by omega)]
        · rw [if_neg y, if_neg y]
          exact ⟨_, rfl, by omega, fr⟩
      · rw [if_neg z, if_neg (fun h => z ((oN_lt (by omega) (by omega)).mp h))]
        refine ⟨_, rfl, fr, ?_, ?_, CL_cons a10 r2 hlen a11 (fun t ht => absurd ht (Nat.not_lt_zero _))⟩
        · exact hK3.2.2
        · show c + 1 ≤ 60; omega
end READ
