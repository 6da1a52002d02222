/-! ===== layer 3: the calls of the law: the mean leg and the share of waste ===== -/
/-- what such a call comes to -/
def LDt (ad : Nat → Nat) (K' : Nat) (cl : Option (Int32 × jKt)) (md : jKt → Option (UInt64 × jKt)) : Prop :=
  ∃ t κ1 y κ2, cl = some (t, κ1) ∧ md κ1 = some (y, κ2) ∧ kI κ2 (ad 20) 0 = t ∧ (t = 0 → kD κ2 (ad 41) 0 = y ∧ y &&& 0x7fffffffffffffff ≤ 0x7ff0000000000000) ∧ INV ad κ2 K'
def LFt (ad : Nat → Nat) (K' : Nat) (cl : Option (Int32 × jKt)) (md : jKt → Option (UInt32 × jKt)) : Prop :=
  ∃ t κ1 y κ2, cl = some (t, κ1) ∧ md κ1 = some (y, κ2) ∧ kI κ2 (ad 20) 0 = t ∧ (t = 0 → kD κ2 (ad 41) 0 = FP.f2d y ∧ y &&& 0x7fffffff ≤ 0x7f800000) ∧ INV ad κ2 K'
section MEANS
variable {ad : Nat → Nat} {κ κ1 κ2 κ3 : jKt} {K : Nat}
theorem kD_U (hi : ∀ a b, ad a = ad b → a = b) (κ : jKt) (x : UInt64) : kD (kU κ (ad 41) 0 (.double x)) (ad 41) 0 = x := by
  unfold kD kU
  rw [if_pos ⟨rfl, rfl⟩]
theorem kD_z (z : ZF ad κ κ1) : kD κ1 (ad 41) 0 = kD κ (ad 41) 0 := by
  unfold kD
  rw [z 41 0 (by unfold Zf; omega)]
theorem l_meanLeg (hi : ∀ a b, ad a = ad b → a = b) (hI : INV ad κ K) (c : Int32) : LDt ad K (P_L_meanLeg κ (ad 0) c (ad 41)) (fun κ1 => P_X7_meanLeg κ1 (ad 20) c) := by
  obtain ⟨⟨v, ch, ps, hs, sv, g1, g2, g3⟩, -⟩ := id hI
  obtain ⟨pr, tr, pa, su, h, -⟩ := g1.see g2 g3
  have hG := h.2.2.2.1.1
  have hn0 := hG.1
  have c5 := hn0.2.2
  unfold P_L_meanLeg P_X6_meanLeg
  rw [X6_known h]
  by_cases g : 0 ≤ c ∧ c < v 0
  · obtain ⟨m, m1, m2⟩ := lt_n g.1 (by rw [← hn0.1]; exact g.2) (by omega)
    have p1 := (hG.2.2.1 m m2).1
    have p8 := p1.2.2
    have p0 := p1.2.1
    have hx : ix c = m := by rw [m1, oN_ix (by omega)]
    have hlc : kI κ (ad (bR pr + 4 + 2 * m)) 0 = oN (2 * nn v (12 + 17 * m)) := (h.2.2.1.2.2.1 m m2).1
    have hnz : oN (2 * nn v (12 + 17 * m)) ≠ 0 := fun q => by have := (oN_eq (b := 0) (by omega) (by omega)).mp q; omega
    have hfin := fl_m (lgs v m) _ hnz
    generalize hD : FP.ddiv (FP.i2d (lgs v m)) (FP.i2d (oN (2 * nn v (12 + 17 * m)))) = D at hfin
    rw [if_pos g, bdx_o, hx, hlc, if_neg hnz, c_lgs h m2, bd_s, hD, ck_t hfin, bdx_o]
    have z1 : ZF2 ad κ (kU κ (ad 41) 0 (.double D)) := ZF2.U hi (Or.inr rfl)
    have hp1 := h.zf2 z1
    obtain ⟨h1, h2, h3⟩ := hp1.thr hi 0
    have hlg : P_X7_legs (kU (kU κ (ad 41) 0 (.double D)) (ad 20) 0 (.int 0)) (ad 20) c = some (oN (2 * nn v (12 + 17 * m))) := by
      rw [m1, X7_legs (by omega), h1.ms.mv h1.1, p1.1, show (2 : Int32) = oN 2 from rfl, oN_mul, nn_n p1.1 (by omega)]
    have ha : P_X7_all (kU (kU κ (ad 41) 0 (.double D)) (ad 20) 0 (.int 0)) (ad 20) c = some (lgs v m) := by
      have := X7_all (κ := kU (kU κ (ad 41) 0 (.double D)) (ad 20) 0 (.int 0)) (m := ad 20) (c := m) (by rw [h1.ms.mv h1.1]; exact hG) (by rw [h1.ms.mv h1.1]; exact m2)
      rw [h1.ms.mv h1.1] at this
      rw [m1]; exact this
    refine ⟨0, kU κ (ad 41) 0 (.double D), D, kU (kU κ (ad 41) 0 (.double D)) (ad 20) 0 (.int 0), rfl, ?_, h2, fun _ => ⟨?_, hfin⟩, hI.zf (z1.trans h3.two)⟩
    · show P_X7_meanLeg (kU κ (ad 41) 0 (.double D)) (ad 20) c = _
      unfold P_X7_meanLeg P_X7_meanLeg_14
      rw [X7_isCustomer hp1.ms hp1.1 hn0, bd_s, if_pos g, if_neg (by decide), bnd_e, h2, if_pos rfl, ha, bd_s, hlg, bd_s, hD, ck_t hfin]
    · rw [kD_z h3, kD_U hi]
  · obtain ⟨h1, h2, h3⟩ := h.thr hi 1
    rw [if_neg g, bdx_e, bdx_e, if_pos rfl]
    refine ⟨1, κ, FP.dconst0, _, rfl, ?_, h2, fun q => absurd q (by decide), hI.zf h3.two⟩
    show P_X7_meanLeg κ (ad 20) c = _
    unfold P_X7_meanLeg P_X7_meanLeg_14
    rw [X7_isCustomer h.ms h.1 hn0, bd_s, if_neg g, if_pos rfl, bnd_e, h2, if_neg (by decide)]
theorem l_wasteShare (hi : ∀ a b, ad a = ad b → a = b) (hI : INV ad κ K) : LFt ad K (P_L_wasteShare κ (ad 0) (ad 41)) (fun κ1 => P_X7_wasteShare κ1 (ad 20)) := by
  obtain ⟨⟨v, ch, ps, hs, sv, g1, g2, g3⟩, -⟩ := id hI
  obtain ⟨pr, tr, pa, su, h, -⟩ := g1.see g2 g3
  obtain ⟨-, -, -, a3, a4, -⟩ := h.2.2.1.2.1
  have a3' : kI κ (ad (bR pr)) 6 = v 3 := a3
  have a4' : kI κ (ad (bR pr)) 7 = v 4 := a4
  have e3 : ix 3 = 3 := rfl
  have e4 : ix 4 = 4 := rfl
  unfold P_L_wasteShare P_X6_wasteShare
  rw [h.p0, a3', a4']
  by_cases g : v 3 = 0
  · obtain ⟨h1, h2, h3⟩ := h.thr hi 1
    rw [if_pos g, bdx_e, if_pos rfl]
    refine ⟨1, κ, FP.fconst0, _, rfl, ?_, h2, fun q => absurd q (by decide), hI.zf h3.two⟩
    show P_X7_wasteShare κ (ad 20) = _
    unfold P_X7_wasteShare P_X7_wasteShare_15
    rw [e3, h.ms.rd h.1, if_pos g, bnd_e, h2, if_neg (by decide)]
  · have hfin := fl_w (v 4) _ g
    generalize hD : FP.fdiv (FP.i2f (v 4)) (FP.i2f (v 3)) = D at hfin
    rw [if_neg g, ck_t hfin, bdx_o, ck_t (fl_d hfin)]
    have z1 : ZF2 ad κ (kU κ (ad 41) 0 (.double (FP.f2d D))) := ZF2.U hi (Or.inr rfl)
    have hp1 := h.zf2 z1
    obtain ⟨h1, h2, h3⟩ := hp1.thr hi 0
    refine ⟨0, kU κ (ad 41) 0 (.double (FP.f2d D)), D, kU (kU κ (ad 41) 0 (.double (FP.f2d D))) (ad 20) 0 (.int 0), rfl, ?_, h2, fun _ => ⟨?_, hfin⟩, hI.zf (z1.trans h3.two)⟩
    · show P_X7_wasteShare (kU κ (ad 41) 0 (.double (FP.f2d D))) (ad 20) = _
      unfold P_X7_wasteShare P_X7_wasteShare_15
      rw [e3, e4, hp1.ms.rd hp1.1, if_neg g, bnd_e, h2, if_pos rfl, h1.ms.rd h1.1, h1.ms.rd h1.1, hD, ck_t hfin]
    · rw [kD_z h3, kD_U hi]
end MEANS
