/-! ===== layer 3: a room takes over another; rows that agree on their 457 places ===== -/
theorem GX_457 {v v' : Nat → Int32} {K : Nat} (h : GX v K) (e : ∀ j, j < 457 → v' j = v j) : GX v' K := by
  have hR := GR_iff.mp h.1
  have c5 := hR.1.2.2
  have m6 := hR.2.1.2.2
  have n0 : nn v' 0 = nn v 0 := nn_c (e 0 (by omega))
  have n1 : nn v' 1 = nn v 1 := nn_c (e 1 (by omega))
  have n2 : nn v' 2 = nn v 2 := nn_c (e 2 (by omega))
  refine GX_gen h (isN_c (e 0 (by omega)) hR.1) (by omega) (isN_c (e 1 (by omega)) hR.2.1) (fun c hc => isN_c (e _ (by omega)) (h.2.1 c hc)) ⟨by rw [n2, e 2 (by omega)]; exact h.2.2.1.1, by omega, by rw [n2]; exact h.2.2.1.2⟩ (fun c hc => GC_c (fun k hk => e _ (by omega)) (hR.2.2.1 c (by omega))) (fun t ht => ?_) (fun a b hab hb => ?_)
  · have hw := (hR.2.2.2 t (by omega)).1.2.2
    exact Or.inl ⟨t, by omega, fun k hk => e _ (by omega), e _ (by omega)⟩
  · rw [e _ (by omega), e _ (by omega)]
    exact h.2.2.2.2 a b hab (by omega)
theorem RRel_457 {S : Nat → Nat → Int32} {r : Nat} {su : Nat → Nat} {v v' : Nat → Int32} (h : RRel S r su v) (hG : GR v) (e : ∀ j, j < 457 → v' j = v j) : RRel S r su v' := by
  have hR := GR_iff.mp hG
  have c5 := hR.1.2.2
  have m6 := hR.2.1.2.2
  obtain ⟨b1, ⟨b2, b4, b5, b6, b7, b8, b9, b10⟩, b3, bs, bi⟩ := h
  refine ⟨fun c hc => by rw [e _ (by omega)]; exact b1 c hc, ⟨by rw [e _ (by omega)]; exact b2, by rw [e _ (by omega)]; exact b4, by rw [e _ (by omega)]; exact b5, by rw [e _ (by omega)]; exact b6, by rw [e _ (by omega)]; exact b7, by rw [e _ (by omega)]; exact b8, by rw [e _ (by omega)]; exact b9, by rw [e _ (by omega)]; exact b10⟩, fun c hc => ?_, fun t ht => ?_, bi⟩
  · rw [nn_c (e 0 (by omega))] at hc
    exact CRel_c (fun _ _ _ => rfl) (fun k hk => e _ (by omega)) (hR.2.2.1 c hc) (b3 c hc)
  · rw [nn_c (e 1 (by omega))] at ht
    have hw := (hR.2.2.2 t ht).1.2.2
    exact SRel_c (fun _ _ _ => rfl) ⟨fun k hk => e _ (by omega), e _ (by omega)⟩ (hR.2.2.2 t ht) (hG.sl16 ht).1 (bs t ht)
def cS (S : Nat → Nat → Int32) (n m k : Nat) : Nat → Nat → Int32 := fun x y => if x = m ∧ y < k then S n y else S x y
theorem cS_n {S : Nat → Nat → Int32} {n m k x y : Nat} (h : ¬ (x = m ∧ y < k)) : cS S n m k x y = S x y := if_neg h
theorem cS_e {S : Nat → Nat → Int32} {n m k y : Nat} (h : y < k) : cS S n m k m y = S n y := if_pos ⟨rfl, h⟩
section TAKE
variable {ad : Nat → Nat} {κ κ1 : jKt} {pr tr a b : Nat} {pa : Nat → Nat} {su : Nat → Nat → Nat} {v : Nat → Int32} {S1 : Nat → Nat → Int32}
/-- a row of ints is copied -/
theorem CS.C (hi : ∀ a b, ad a = ad b → a = b) (h : CS ad a κ κ1 S1) {n m k : Nat} (hs : ∀ j, iSl m j) (hr : inR a m) : CS ad a κ (kCp κ1 (ad n) (ad m) k) (cS S1 n m k) := by
  refine ⟨fun x y hx => ?_, fun x y => ?_⟩
  · rw [← h.1 x y hx]
    unfold kCp
    rw [if_neg (fun g => ?_)]
    have e := hi _ _ g.1
    subst e
    exact hx hr (hs y)
  · show kI (kCp κ1 (ad n) (ad m) k) (ad x) y = (if x = m ∧ y < k then S1 n y else S1 x y)
    by_cases e : x = m ∧ y < k
    · rw [if_pos e]
      unfold kI kCp
      rw [if_pos ⟨by rw [e.1], e.2⟩]
      exact h.2 n y
    · rw [if_neg e]
      unfold kI kCp
      rw [if_neg (fun g => e ⟨hi _ _ g.1, g.2⟩)]
      exact h.2 x y
theorem X0_take (hi : ∀ a b, ad a = ad b → a = b) (hP : PT ad κ pr tr pa su) (ha : a < 11) (hb : b < 11) (h : CS ad a κ κ1 S1) {i : Nat} (h5 : i < 5) (hg : GC v i) (hC : CRel S1 (bR b + 4 + 2 * i) v i) :
    ∃ κ2 S2, P_X0_takeOver κ1 (ad (bR a + 4 + 2 * i)) (ad (bR b + 4 + 2 * i)) = some κ2 ∧ CS ad a κ κ2 S2 ∧ (∀ n j, n ≠ bR a + 4 + 2 * i → n ≠ bR a + 5 + 2 * i → S2 n j = S1 n j) ∧ CRel S2 (bR a + 4 + 2 * i) v i := by
  have h1 := h.U hi (n := bR a + 4 + 2 * i) (j := 0) (x := S1 (bR b + 4 + 2 * i) 0) (iSl_c0 h5) ⟨by omega, by omega⟩
  have h2 := h1.C hi (n := bR b + 5 + 2 * i) (m := bR a + 5 + 2 * i) (k := 16) (fun j => iSl_c1 j h5) ⟨by omega, by omega⟩
  have p8 := hg.1.2.2
  refine ⟨_, _, ?_, h2, fun n j n1 n2 => ?_, ?_, fun l hl => ?_⟩
  · unfold P_X0_takeOver
    rw [h.rd, bnd_e, (h1.pt hP).lg hb h5, (h1.pt hP).lg ha h5, bnd_e]
  · rw [cS_n (by omega), uS_n (by omega)]
  · rw [cS_n (by omega), uS_e]; exact hC.1
  · have := hC.2 l hl
    rw [show bR a + 4 + 2 * i + 1 = bR a + 5 + 2 * i by omega, cS_e (by omega), ← this, show bR b + 4 + 2 * i + 1 = bR b + 5 + 2 * i by omega]
    by_cases e : bR b + 5 + 2 * i = bR a + 4 + 2 * i
    · exfalso; unfold bR at e; omega
    · rw [uS_n (by omega)]
theorem X4_take (hi : ∀ a b, ad a = ad b → a = b) (hP : PT ad κ pr tr pa su) (ha : a < 11) (hb : b < 11) (hab : a ≠ b) (h : CS ad a κ κ1 S1) {s w u : Nat} (hw : w < 6) (hu : u < 6) (h16 : sl v s ≤ 16) (hC : SRel S1 (bR b + 14 + 4 * u) v s) :
    ∃ κ2 S2, P_X4_takeOver κ1 (ad (bR a + 14 + 4 * w)) (ad (bR b + 14 + 4 * u)) = some κ2 ∧ CS ad a κ κ2 S2 ∧ (∀ n j, ¬ (bR a + 14 + 4 * w ≤ n ∧ n < bR a + 18 + 4 * w) → S2 n j = S1 n j) ∧ SRel S2 (bR a + 14 + 4 * w) v s := by
  have hne : ∀ x y, x < 38 → y < 38 → bR b + x ≠ bR a + y := by
    intro x y hx hy e
    unfold bR at e
    rcases Nat.lt_or_gt_of_ne hab with q | q <;> omega
  have h1 := h.U hi (n := bR a + 14 + 4 * w) (j := 0) (x := S1 (bR b + 14 + 4 * u) 0) (iSl_s0 hw (by omega)) ⟨by omega, by omega⟩
  have q1 := h1.rd (bR b + 14 + 4 * u) 1
  rw [uS_n (fun g => hne (14 + 4 * u) (14 + 4 * w) (by omega) (by omega) (by omega))] at q1
  have h2 := h1.U hi (n := bR a + 14 + 4 * w) (j := 1) (x := S1 (bR b + 14 + 4 * u) 1) (iSl_s0 hw (by omega)) ⟨by omega, by omega⟩
  have q2 := h2.rd (bR b + 14 + 4 * u) 2
  rw [uS_n (fun g => hne (14 + 4 * u) (14 + 4 * w) (by omega) (by omega) (by omega)), uS_n (fun g => hne (14 + 4 * u) (14 + 4 * w) (by omega) (by omega) (by omega))] at q2
  have h3 := h2.U hi (n := bR a + 14 + 4 * w) (j := 2) (x := S1 (bR b + 14 + 4 * u) 2) (iSl_s0 hw (by omega)) ⟨by omega, by omega⟩
  have q3 := h3.rd (bR b + 14 + 4 * u) 3
  rw [uS_n (fun g => hne (14 + 4 * u) (14 + 4 * w) (by omega) (by omega) (by omega)), uS_n (fun g => hne (14 + 4 * u) (14 + 4 * w) (by omega) (by omega) (by omega)), uS_n (fun g => hne (14 + 4 * u) (14 + 4 * w) (by omega) (by omega) (by omega))] at q3
  have h4 := h3.U hi (n := bR a + 14 + 4 * w) (j := 3) (x := S1 (bR b + 14 + 4 * u) 3) (iSl_s0 hw (by omega)) ⟨by omega, by omega⟩
  have q4 := h4.rd (bR b + 14 + 4 * u) 4
  rw [uS_n (fun g => hne (14 + 4 * u) (14 + 4 * w) (by omega) (by omega) (by omega)), uS_n (fun g => hne (14 + 4 * u) (14 + 4 * w) (by omega) (by omega) (by omega)), uS_n (fun g => hne (14 + 4 * u) (14 + 4 * w) (by omega) (by omega) (by omega)), uS_n (fun g => hne (14 + 4 * u) (14 + 4 * w) (by omega) (by omega) (by omega))] at q4
  have h5 := h4.U hi (n := bR a + 14 + 4 * w) (j := 4) (x := S1 (bR b + 14 + 4 * u) 4) (iSl_s0 hw (by omega)) ⟨by omega, by omega⟩
  have h6 := h5.C hi (n := bR b + 15 + 4 * u) (m := bR a + 15 + 4 * w) (k := 16) (fun j => iSl_s1 j hw) ⟨by omega, by omega⟩
  have h7 := h6.C hi (n := bR b + 16 + 4 * u) (m := bR a + 16 + 4 * w) (k := 16) (fun j => iSl_s2 j hw) ⟨by omega, by omega⟩
  have h8 := h7.C hi (n := bR b + 17 + 4 * u) (m := bR a + 17 + 4 * w) (k := 16) (fun j => iSl_s3 j hw) ⟨by omega, by omega⟩
  have kk : ∀ x y, bR b + 14 + 4 * u ≤ x → x < bR b + 18 + 4 * u → ∀ z, uS (uS (uS (uS (uS S1 (bR a + 14 + 4 * w) 0 (S1 (bR b + 14 + 4 * u) 0)) (bR a + 14 + 4 * w) 1 (S1 (bR b + 14 + 4 * u) 1)) (bR a + 14 + 4 * w) 2 (S1 (bR b + 14 + 4 * u) 2)) (bR a + 14 + 4 * w) 3 (S1 (bR b + 14 + 4 * u) 3)) (bR a + 14 + 4 * w) 4 z x y = S1 x y := by
    intro x y x1 x2 z
    have e : ∀ j, ¬ (x = bR a + 14 + 4 * w ∧ y = j) := fun j g => hne (x - bR b) (14 + 4 * w) (by omega) (by omega) (by omega)
    rw [uS_n (e _), uS_n (e _), uS_n (e _), uS_n (e _), uS_n (e _)]
  obtain ⟨s1, s2, s3, s4, s5, s6⟩ := hC
  refine ⟨_, _, ?_, h8, fun n j n1 => ?_, ?_, ?_, ?_, ?_, ?_, fun l hl => ?_⟩
  · unfold P_X4_takeOver
    rw [h.rd, bnd_e, q1, bnd_e, q2, bnd_e, q3, bnd_e, q4, bnd_e, (h5.pt hP).q5 hb hu, (h5.pt hP).q5 ha hw, bnd_e, (h6.pt hP).q6 hb hu, (h6.pt hP).q6 ha hw, bnd_e, (h7.pt hP).q7 hb hu, (h7.pt hP).q7 ha hw, bnd_e]
  · rw [cS_n (by omega), cS_n (by omega), cS_n (by omega), uS_n (by omega), uS_n (by omega), uS_n (by omega), uS_n (by omega), uS_n (by omega)]
  · rw [cS_n (by omega), cS_n (by omega), cS_n (by omega), uS_n (by omega), uS_n (by omega), uS_n (by omega), uS_n (by omega), uS_e]; exact s1
  · rw [cS_n (by omega), cS_n (by omega), cS_n (by omega), uS_n (by omega), uS_n (by omega), uS_n (by omega), uS_e]; exact s2
  · rw [cS_n (by omega), cS_n (by omega), cS_n (by omega), uS_n (by omega), uS_n (by omega), uS_e]; exact s3
  · rw [cS_n (by omega), cS_n (by omega), cS_n (by omega), uS_n (by omega), uS_e]; exact s4
  · rw [cS_n (by omega), cS_n (by omega), cS_n (by omega), uS_e]; exact s5
  · obtain ⟨t1, t2, t3⟩ := s6 l hl
    have nb : ∀ x y j, bR b + 14 + 4 * u ≤ x → x < bR b + 18 + 4 * u → bR a + 14 + 4 * w ≤ y → y < bR a + 18 + 4 * w → ¬ (x = y ∧ l < j) := fun x y j x1 x2 y1 y2 g => hne (x - bR b) (y - bR a) (by omega) (by omega) (by omega)
    refine ⟨?_, fun hp => ?_, fun f hf => ?_⟩
    · rw [cS_n (by omega), cS_n (by omega), show bR a + 14 + 4 * w + 1 = bR a + 15 + 4 * w by omega, cS_e (by omega), kk _ _ (by omega) (by omega), ← t1, show bR b + 14 + 4 * u + 1 = bR b + 15 + 4 * u by omega]
    · rw [cS_n (by omega), show bR a + 14 + 4 * w + 2 = bR a + 16 + 4 * w by omega, cS_e (by omega), cS_n (nb _ _ _ (by omega) (by omega) (by omega) (by omega)), kk _ _ (by omega) (by omega), ← t2 hp, show bR b + 14 + 4 * u + 2 = bR b + 16 + 4 * u by omega]
    · rw [show bR a + 14 + 4 * w + 3 = bR a + 17 + 4 * w by omega, cS_e (by omega), cS_n (nb _ _ _ (by omega) (by omega) (by omega) (by omega)), cS_n (nb _ _ _ (by omega) (by omega) (by omega) (by omega)), kk _ _ (by omega) (by omega), ← t3 f hf, show bR b + 14 + 4 * u + 3 = bR b + 17 + 4 * u by omega]
theorem X5_take (hi : ∀ a b, ad a = ad b → a = b) (hP : PT ad κ pr tr pa su) (ha : a < 11) (hb : b < 11) (hab : a ≠ b) (hj : ∀ i k, i < 6 → k < 6 → su a i = su a k → i = k) (hR : RRel (iS ad κ) b (su b) v) (hG : GR v) :
    ∃ κ', P_X5_takeOver κ (ad (bR a)) (ad (bR b)) = some κ' ∧ Fr ad (inR a) κ κ' ∧ RRel (iS ad κ') a (su a) v := by
  have hR' := GR_iff.mp hG
  have hn0 := hR'.1
  have hn1 := hR'.2.1
  have c5 := hn0.2.2
  have m6 := hn1.2.2
  obtain ⟨b1, ⟨b2, b4, b5, b6, b7, b8, b9, b10⟩, b3, bs, bi⟩ := hR
  have hne : ∀ x, x < 38 → ¬ inR a (bR b + x) := by
    intro x hx g
    unfold inR bR at g
    rcases Nat.lt_or_gt_of_ne hab with q | q <;> omega
  have src : ∀ {κ1 S1}, CS ad a κ κ1 S1 → ∀ x j, x < 38 → S1 (bR b + x) j = iS ad κ (bR b + x) j := fun h x j hx => by rw [← h.2]; exact h.1.i (hne x hx) j
  have srcC : ∀ {κ1 S1}, CS ad a κ κ1 S1 → ∀ i, i < nn v 0 → CRel S1 (bR b + 4 + 2 * i) v i := fun h i hi2 => CRel_c (fun q hq j => by
    have := src h (4 + 2 * i + q) j (by omega)
    rw [show bR b + (4 + 2 * i + q) = bR b + 4 + 2 * i + q by omega] at this; exact this) (fun _ _ => rfl) (hR'.2.2.1 i hi2) (b3 i hi2)
  have srcS : ∀ {κ1 S1}, CS ad a κ κ1 S1 → ∀ s, s < nn v 1 → SRel S1 (bR b + 14 + 4 * su b s) v s := fun h s hs => SRel_c (fun q hq j => by
    have k6 := hP.s6 hb (i := s) (by omega)
    have := src h (14 + 4 * su b s + q) j (by omega)
    rw [show bR b + (14 + 4 * su b s + q) = bR b + 14 + 4 * su b s + q by omega] at this; exact this) (TS.refl v s) (hR'.2.2.2 s hs) (hG.sl16 hs).1 (bs s hs)
  have h0 := CS.refl (ad := ad) (r := a) κ
  have h1 := h0.C hi (n := bR b + 1) (m := bR a + 1) (k := 4) (fun j => iSl_r1 a j) ⟨by omega, by omega⟩
  have r2 : kI (kCp κ (ad (bR b + 1)) (ad (bR a + 1)) 4) (ad (bR b)) 2 = v 0 := by rw [h1.rd]; exact (src h1 0 2 (by omega)).trans b2
  have h2 := h1.U hi (n := bR a) (j := 2) (x := v 0) (iSl_r0 (by omega)) ⟨by omega, by omega⟩
  have stk : ∀ c, c < 4 → uS (cS (iS ad κ) (bR b + 1) (bR a + 1) 4) (bR a) 2 (v 0) (bR a + 1) c = v (8 + c) := by
    intro c hc
    rw [uS_n (by omega), cS_e hc]; exact b1 c hc
  unfold P_X5_takeOver
  rw [hP.r0 hb, hP.r0 ha, bnd_e, r2, bnd_e]
  -- the suits
  have LS : ∀ (q i f : Nat) (κ1 : jKt) (S1 : Nat → Nat → Int32), i + q = nn v 1 → q < f → CS ad a κ κ1 S1 → (∀ c, c < 4 → S1 (bR a + 1) c = v (8 + c)) → S1 (bR a) 2 = v 0 → S1 (bR a) 4 = v 1 → (∀ c, c < nn v 0 → CRel S1 (bR a + 4 + 2 * c) v c) → (∀ s, s < i → SRel S1 (bR a + 14 + 4 * su a s) v s) →
      ∃ κ', P_X5_takeOver_63 (ad (bR a)) (ad (bR b)) f κ1 (oN i) = some κ' ∧ Fr ad (inR a) κ κ' ∧ RRel (iS ad κ') a (su a) v := by
    intro q
    induction q with
    | zero =>
      intro i f κ1 S1 g1 g2 hM z1 z2 z4 z3 zs
      obtain ⟨f, rfl⟩ : ∃ g, f = g + 1 := ⟨f - 1, by omega⟩
      have e4 := hM.rd (bR a) 4
      rw [z4, hn1.1] at e4
      have sr : ∀ {κ1 S1}, CS ad a κ κ1 S1 → ∀ j, kI κ1 (ad (bR b)) j = iS ad κ (bR b) j := fun h j => by rw [h.rd]; exact src h 0 j (by omega)
      have j1 := hM.U hi (n := bR a) (j := 5) (x := v 2) (iSl_r0 (by omega)) ⟨by omega, by omega⟩
      have j2 := j1.U hi (n := bR a) (j := 6) (x := v 3) (iSl_r0 (by omega)) ⟨by omega, by omega⟩
      have j3 := j2.U hi (n := bR a) (j := 7) (x := v 4) (iSl_r0 (by omega)) ⟨by omega, by omega⟩
      have j4 := j3.U hi (n := bR a) (j := 8) (x := v 5) (iSl_r0 (by omega)) ⟨by omega, by omega⟩
      have j5 := j4.U hi (n := bR a) (j := 9) (x := v 6) (iSl_r0 (by omega)) ⟨by omega, by omega⟩
      have j6 := j5.U hi (n := bR a) (j := 10) (x := v 7) (iSl_r0 (by omega)) ⟨by omega, by omega⟩
      have s5 := sr hM 5
      have s6 := sr j1 6
      have s7 := sr j2 7
      have s8 := sr j3 8
      have s9 := sr j4 9
      have s10 := sr j5 10
      rw [b5] at s5; rw [b6] at s6; rw [b7] at s7; rw [b8] at s8; rw [b9] at s9; rw [b10] at s10
      refine ⟨_, by rw [P_X5_takeOver_63, e4, if_pos ((oN_le (by omega) (by omega)).mpr (by omega)), s5, bnd_e, s6, bnd_e, s7, bnd_e, s8, bnd_e, s9, bnd_e, s10, bnd_e], j6.1, ?_⟩
      have eS := funext fun n => funext fun j => j6.2 n j
      rw [show iS ad (kU (kU (kU (kU (kU (kU κ1 (ad (bR a)) 5 (.int (v 2))) (ad (bR a)) 6 (.int (v 3))) (ad (bR a)) 7 (.int (v 4))) (ad (bR a)) 8 (.int (v 5))) (ad (bR a)) 9 (.int (v 6))) (ad (bR a)) 10 (.int (v 7))) = _ from eS]
      have sm : ∀ n j, n ≠ bR a → uS (uS (uS (uS (uS (uS S1 (bR a) 5 (v 2)) (bR a) 6 (v 3)) (bR a) 7 (v 4)) (bR a) 8 (v 5)) (bR a) 9 (v 6)) (bR a) 10 (v 7) n j = S1 n j := fun n j hn => by
        rw [uS_n (by omega), uS_n (by omega), uS_n (by omega), uS_n (by omega), uS_n (by omega), uS_n (by omega)]
      refine ⟨fun c hc => by rw [sm _ _ (by omega)]; exact z1 c hc, ⟨?_, ?_, ?_, ?_, ?_, ?_, ?_, ?_⟩, fun c hc => CRel_c (fun q hq j => sm _ _ (by omega)) (fun _ _ => rfl) (hR'.2.2.1 c hc) (z3 c hc), fun s hs => ?_, hj⟩
      · rw [uS_n (by omega), uS_n (by omega), uS_n (by omega), uS_n (by omega), uS_n (by omega), uS_n (by omega)]; exact z2
      · rw [uS_n (by omega), uS_n (by omega), uS_n (by omega), uS_n (by omega), uS_n (by omega), uS_n (by omega)]; exact z4
      · rw [uS_n (by omega), uS_n (by omega), uS_n (by omega), uS_n (by omega), uS_n (by omega), uS_e]
      · rw [uS_n (by omega), uS_n (by omega), uS_n (by omega), uS_n (by omega), uS_e]
      · rw [uS_n (by omega), uS_n (by omega), uS_n (by omega), uS_e]
      · rw [uS_n (by omega), uS_n (by omega), uS_e]
      · rw [uS_n (by omega), uS_e]
      · rw [uS_e]
      · exact SRel_c (fun q hq j => sm _ _ (by omega)) (TS.refl v s) (hR'.2.2.2 s hs) (hG.sl16 hs).1 (zs s (by omega))
    | succ q ih =>
      intro i f κ1 S1 g1 g2 hM z1 z2 z4 z3 zs
      obtain ⟨f, rfl⟩ : ∃ g, f = g + 1 := ⟨f - 1, by omega⟩
      have e4 := hM.rd (bR a) 4
      rw [z4, hn1.1] at e4
      have e1 : (oN i + 1 : Int32) = oN (i + 1) := oN_add i 1
      have ka := hP.s6 ha (i := i) (by omega)
      have kb := hP.s6 hb (i := i) (by omega)
      obtain ⟨κ2, S2, t1, t2, t3, t4⟩ := X4_take (w := su a i) (u := su b i) hi hP ha hb hab hM ka kb (hG.sl16 (by omega : i < nn v 1)).1 (srcS hM i (by omega))
      rw [P_X5_takeOver_63, e4, if_neg (fun h => by have := (oN_le (by omega) (by omega)).mp h; omega), ck_t ((oN_jin (by omega)).mpr (by omega)), ck_t ((oN_jin (by omega)).mpr (by omega)), oN_ix (by omega), (hM.pt hP).r3 ha, (hM.pt hP).r3 hb, (hM.pt hP).st ha (by omega), (hM.pt hP).st hb (by omega), t1, bd_s, e1]
      refine ih (i + 1) f κ2 S2 (by omega) (by omega) t2 (fun c hc => by rw [t3 _ _ (by omega)]; exact z1 c hc) (by rw [t3 _ _ (by omega)]; exact z2) (by rw [t3 _ _ (by omega)]; exact z4) (fun c hc => CRel_c (fun q hq j => t3 _ _ (by omega)) (fun _ _ => rfl) (hR'.2.2.1 c hc) (z3 c hc)) (fun s hs => ?_)
      by_cases e : s = i
      · rw [e]; exact t4
      · have kas := hP.s6 ha (i := s) (by omega)
        have hne2 : su a s ≠ su a i := fun g => e (hj s i (by omega) (by omega) g)
        refine SRel_c (fun q hq j => t3 _ _ ?_) (TS.refl v s) (hR'.2.2.2 s (by omega)) (hG.sl16 (by omega)).1 (zs s (by omega))
        rcases Nat.lt_or_gt_of_ne hne2 with q9 | q9 <;> omega
  -- the customers
  have LC : ∀ (q i f : Nat) (κ1 : jKt) (S1 : Nat → Nat → Int32), i + q = nn v 0 → q < f → CS ad a κ κ1 S1 → (∀ c, c < 4 → S1 (bR a + 1) c = v (8 + c)) → S1 (bR a) 2 = v 0 → (∀ c, c < i → CRel S1 (bR a + 4 + 2 * c) v c) →
      ∃ κ', P_X5_takeOver_24 (ad (bR a)) (ad (bR b)) f κ1 (oN i) = some κ' ∧ Fr ad (inR a) κ κ' ∧ RRel (iS ad κ') a (su a) v := by
    intro q
    induction q with
    | zero =>
      intro i f κ1 S1 g1 g2 hM z1 z2 z3
      obtain ⟨f, rfl⟩ : ∃ g, f = g + 1 := ⟨f - 1, by omega⟩
      have e2 := hM.rd (bR a) 2
      rw [z2, hn0.1] at e2
      have s4 : kI κ1 (ad (bR b)) 4 = v 1 := by rw [hM.rd]; exact (src hM 0 4 (by omega)).trans b4
      have j1 := hM.U hi (n := bR a) (j := 4) (x := v 1) (iSl_r0 (by omega)) ⟨by omega, by omega⟩
      rw [P_X5_takeOver_24, e2, if_pos ((oN_le (by omega) (by omega)).mpr (by omega)), s4, bnd_e]
      exact LS (nn v 1) 0 4000 _ _ (by omega) (by omega) j1 (fun c hc => by rw [uS_n (by omega)]; exact z1 c hc) (by rw [uS_n (by omega)]; exact z2) (by rw [uS_e]) (fun c hc => CRel_c (fun q hq j => uS_n (by omega)) (fun _ _ => rfl) (hR'.2.2.1 c hc) (z3 c (by omega))) (fun s hs => by omega)
    | succ q ih =>
      intro i f κ1 S1 g1 g2 hM z1 z2 z3
      obtain ⟨f, rfl⟩ : ∃ g, f = g + 1 := ⟨f - 1, by omega⟩
      have e2 := hM.rd (bR a) 2
      rw [z2, hn0.1] at e2
      have e1 : (oN i + 1 : Int32) = oN (i + 1) := oN_add i 1
      obtain ⟨κ2, S2, t1, t2, t3, t4⟩ := X0_take (i := i) hi hP ha hb hM (by omega) (hR'.2.2.1 i (by omega)) (srcC hM i (by omega))
      rw [P_X5_takeOver_24, e2, if_neg (fun h => by have := (oN_le (by omega) (by omega)).mp h; omega), ck_t ((oN_jin (by omega)).mpr (by omega)), ck_t ((oN_jin (by omega)).mpr (by omega)), oN_ix (by omega), (hM.pt hP).r1 ha, (hM.pt hP).r1 hb, (hM.pt hP).cu ha (by omega), (hM.pt hP).cu hb (by omega), t1, bd_s, e1]
      refine ih (i + 1) f κ2 S2 (by omega) (by omega) t2 (fun c hc => by rw [t3 _ _ (by omega) (by omega)]; exact z1 c hc) (by rw [t3 _ _ (by omega) (by omega)]; exact z2) (fun c hc => ?_)
      by_cases e : c = i
      · rw [e]; exact t4
      · exact CRel_c (fun q hq j => t3 _ _ (by omega) (by omega)) (fun _ _ => rfl) (hR'.2.2.1 c (by omega)) (z3 c (by omega))
  exact LC (nn v 0) 0 4000 _ _ (by omega) (by omega) h2 stk (by rw [uS_e]) (fun c hc => by omega)
end TAKE
