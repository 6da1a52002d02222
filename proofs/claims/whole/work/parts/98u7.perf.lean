/-! ===== layer 3: the class performs the commands on the trial ===== -/
/-- the commands one after another: where one fails, or the row at the end -/
noncomputable def rn : List (Nat × List Int32) → (Nat → Int32) → Nat → Except Nat (Nat → Int32)
  | [], v, _ => .ok v
  | (k, as) :: l, v, t => match oK k v (as.getD 0 0) (as.getD 1 0) (as.getD 2 0) with
    | .error _ => .error t
    | .ok (_, v') => rn l v' (t + 1)
theorem fm_nas : na (fm 0) = 2 ∧ na (fm 1) = 2 ∧ na (fm 2) = 3 ∧ na (fm 3) = 2 ∧ na (fm 4) = 2 ∧ na (fm 5) = 2 ∧ na (fm 6) = 2 ∧ na (fm 7) = 3 ∧ na (fm 8) = 1 ∧ na (fm 9) = 1 := by decide +kernel
theorem oK_ar {v : Nat → Int32} {k : Nat} {as : List Int32} {g : Nat → Int32} (hk : k < 10) (hl : as.length = na (fm k)) (hg : ∀ u (hu : u < as.length), g u = as[u]) : oK k v (g 0) (g 1) (g 2) = oK k v (as.getD 0 0) (as.getD 1 0) (as.getD 2 0) := by
  have e : ∀ u, u < as.length → g u = as.getD u 0 := fun u hu => (hg u hu).trans (gD32 as u hu)
  obtain ⟨n0, n1, n2, n3, n4, n5, n6, n7, n8, n9⟩ := fm_nas
  match k, hk with
  | 0, _ => show o0 v (g 0) (g 1) = o0 v (as.getD 0 0) (as.getD 1 0); rw [e 0 (by omega), e 1 (by omega)]
  | 1, _ => show o1 v (g 0) (g 1) = o1 v (as.getD 0 0) (as.getD 1 0); rw [e 0 (by omega), e 1 (by omega)]
  | 2, _ => rw [e 0 (by omega), e 1 (by omega), e 2 (by omega)]
  | 3, _ => show o3 v (g 0) (g 1) = o3 v (as.getD 0 0) (as.getD 1 0); rw [e 0 (by omega), e 1 (by omega)]
  | 4, _ => show o4 v (g 0) (g 1) = o4 v (as.getD 0 0) (as.getD 1 0); rw [e 0 (by omega), e 1 (by omega)]
  | 5, _ => show o5 v (g 0) (g 1) = o5 v (as.getD 0 0) (as.getD 1 0); rw [e 0 (by omega), e 1 (by omega)]
  | 6, _ => show o6 v (g 0) (g 1) = o6 v (as.getD 0 0) (as.getD 1 0); rw [e 0 (by omega), e 1 (by omega)]
  | 7, _ => rw [e 0 (by omega), e 1 (by omega), e 2 (by omega)]
  | 8, _ => show o8 v (g 0) = o8 v (as.getD 0 0); rw [e 0 (by omega)]
  | 9, _ => show o9 v (g 0) = o9 v (as.getD 0 0); rw [e 0 (by omega)]
section PERF
variable {ad : Nat → Nat} {κ κ1 κ2 : jKt} {pr tr : Nat} {pa : Nat → Nat}
theorem c_perf (hi : ∀ a b, ad a = ad b → a = b) (htr : tr < 11) : ∀ (l : List (Nat × List Int32)) (t f : Nat) (κ : jKt) (v : Nat → Int32) (K : Nat) (su : Nat → Nat → Nat), l.length < f → PT ad κ pr tr pa su → RRel (iS ad κ) tr (su tr) v → GX v K → K + l.length < 2 ^ 30 → CL ad κ t l → kI κ (ad 8) 4 = oN (t + l.length) → t + l.length ≤ 60 →
    match rn l v t with
    | .error t' => ∃ κ' su', P_X2_performIn_2 (ad 8) (ad (bR tr)) f κ (oN t) = some (oN t', κ') ∧ t' < 60 ∧ (∀ q, q ≠ tr → su' q = su q) ∧ PT ad κ' pr tr pa su' ∧ (∀ i k, i < 6 → k < 6 → su' tr i = su' tr k → i = k) ∧ (∀ n j, ¬ inR tr n → κ' (ad n) j = κ (ad n) j)
    | .ok v' => ∃ κ' su', P_X2_performIn_2 (ad 8) (ad (bR tr)) f κ (oN t) = some (-1, κ') ∧ (∀ q, q ≠ tr → su' q = su q) ∧ PT ad κ' pr tr pa su' ∧ (∀ n j, ¬ inR tr n → κ' (ad n) j = κ (ad n) j) ∧ RRel (iS ad κ') tr (su' tr) v' ∧ GX v' (K + l.length) := by
  intro l
  induction l with
  | nil =>
    intro t f κ v K su g1 hP hR hX hK hC h4 h60
    obtain ⟨f, rfl⟩ : ∃ g, f = g + 1 := ⟨f - 1, by omega⟩
    refine ⟨κ, su, ?_, fun _ _ => rfl, hP, fun _ _ _ => rfl, hR, hX⟩
    have h4' : kI κ (ad 8) 4 = oN t := h4
    rw [P_X2_performIn_2, h4', if_pos ((oN_le (by simp at h60; omega) (by simp at h60; omega)).mpr (Nat.le_refl _))]
  | cons w l ih =>
    obtain ⟨k, as⟩ := w
    intro t f κ v K su g1 hP hR hX hK hC h4 h60
    rw [List.length_cons] at g1 hK h4 h60
    obtain ⟨f, rfl⟩ : ∃ g, f = g + 1 := ⟨f - 1, by omega⟩
    obtain ⟨c1, c2, c3, c4⟩ := hC 0 (by rw [List.length_cons]; omega)
    have c1' : kI κ (ad 10) t = oN k := c1
    have c2' : k < 10 := c2
    have c3' : as.length = na (fm k) := c3
    have c4' : ∀ u (hu : u < as.length), kI κ (ad 11) (3 * t + u) = as[u] := c4
    have p10 : kR κ (ad 8) 2 = ad 10 := hP.2.2.2.1.2.1
    have p11 : kR κ (ad 8) 3 = ad 11 := hP.2.2.2.1.2.2
    have m3 : (3 * oN t : Int32) = oN (3 * t) := by rw [show (3 : Int32) = oN 3 from rfl, oN_mul]
    have e1 : (oN (3 * t) + 1 : Int32) = oN (3 * t + 1) := oN_add _ 1
    have e2 : (oN (3 * t) + 2 : Int32) = oN (3 * t + 2) := oN_add _ 2
    have e3 : (oN t + 1 : Int32) = oN (t + 1) := oN_add _ 1
    have ho := oK_ar (v := v) (g := fun u => kI κ (ad 11) (3 * t + u)) c2' c3' c4'
    obtain ⟨x, κ1, a1, su1, a2, a3, a4, a5⟩ := X5_perform hi hP htr hR hX c2' (kI κ (ad 11) (3 * t)) (kI κ (ad 11) (3 * t + 1)) (kI κ (ad 11) (3 * t + 2))
    have ho' : oK k v (kI κ (ad 11) (3 * t)) (kI κ (ad 11) (3 * t + 1)) (kI κ (ad 11) (3 * t + 2)) = oK k v (as.getD 0 0) (as.getD 1 0) (as.getD 2 0) := ho
    have hnl : ¬ oN (t + (l.length + 1)) ≤ oN t := fun h => by have := (oN_le (by omega) (by omega)).mp h; omega
    rw [ho'] at a5
    rw [P_X2_performIn_2, h4, if_neg hnl, m3, e1, e2, e3, ck_t (jin_N (by omega) (by omega)), ck_t (jin_N (by omega) (by omega)), ck_t (jin_N (by omega) (by omega)), ck_t (jin_N (by omega) (by omega)), p10, p11, oN_ix (by omega), oN_ix (by omega), oN_ix (by omega), oN_ix (by omega), c1', a1, bd2_s, rn]
    cases hres : oK k v (as.getD 0 0) (as.getD 1 0) (as.getD 2 0) with
    | error e =>
      rw [hres] at a5
      obtain ⟨b1, b2⟩ := a5
      have hneg := oK_neg hres
      rw [if_neg (by rw [b1]; exact Int32.not_le.mpr hneg)]
      rw [b2]
      exact ⟨κ, su, rfl, by omega, fun _ _ => rfl, hP, hR.2.2.2.2, fun _ _ _ => rfl⟩
    | ok p =>
      obtain ⟨y, v'⟩ := p
      rw [hres] at a5
      obtain ⟨b1, b2⟩ := a5
      obtain ⟨i1, i2⟩ := IK hX (by omega) hres
      have nr : ∀ m, m < 100 → ¬ inR tr m := fun m hm => by unfold inR bR; omega
      have hC1 : CL ad κ1 (t + 1) l := by
        intro u hu
        obtain ⟨d1, d2, d3, d4⟩ := hC (u + 1) (by rw [List.length_cons]; omega)
        refine ⟨?_, d2, d3, fun w hw => ?_⟩
        · have : kI κ1 (ad 10) (t + 1 + u) = kI κ (ad 10) (t + (u + 1)) := by unfold kI; rw [a4 10 _ (nr 10 (by omega)), show t + 1 + u = t + (u + 1) from by omega]
          rw [this]; exact d1
        · have : kI κ1 (ad 11) (3 * (t + 1 + u) + w) = kI κ (ad 11) (3 * (t + (u + 1)) + w) := by unfold kI; rw [a4 11 _ (nr 11 (by omega)), show t + 1 + u = t + (u + 1) from by omega]
          rw [this]; exact d4 w hw
      have h41 : kI κ1 (ad 8) 4 = oN (t + 1 + l.length) := by unfold kI at *; rw [a4 8 4 (nr 8 (by omega)), h4, show t + (l.length + 1) = t + 1 + l.length from by omega]
      have hq := ih (t + 1) f κ1 v' (K + 1) su1 (by omega) a3 b2 i1 (by omega) hC1 h41 (by omega)
      rw [if_pos (by rw [b1]; exact i2)]
      simp only []
      cases hR2 : rn l v' (t + 1) with
      | error t' =>
        rw [hR2] at hq
        obtain ⟨κ', su', s1, s2, s3, s4, s6, s5⟩ := hq
        exact ⟨κ', su', s1, s2, fun q hq' => (s3 q hq').trans (a2 q hq'), s4, s6, fun n j hn => (s5 n j hn).trans (a4 n j hn)⟩
      | ok v2 =>
        rw [hR2] at hq
        obtain ⟨κ', su', s1, s3, s4, s5, s6, s7⟩ := hq
        exact ⟨κ', su', s1, fun q hq' => (s3 q hq').trans (a2 q hq'), s4, fun n j hn => (s5 n j hn).trans (a4 n j hn), s6, s7.up (by rw [List.length_cons]; omega)⟩
end PERF
