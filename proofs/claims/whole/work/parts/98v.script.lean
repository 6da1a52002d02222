/-! ===== layer 3: runScript ===== -/
section RUNSCRIPT
variable {ad : Nat → Nat} {κ κ1 κ2 κ3 : jKt} {v : Nat → Int32} {K ch : Nat} {ps : Nat → Nat → Int32} {hs : Int32} {sv : Nat → Int32}
/-- only the law's cell changes -/
def F40 (ad : Nat → Nat) (κ κ' : jKt) : Prop := ∀ m j, m ≠ 40 → κ' (ad m) j = κ (ad m) j
theorem CH.s40 (h : CH ad κ v ch ps hs sv) (hG : GH v ch ps hs sv K) (f : F40 ad κ κ1) : CH ad κ1 v ch ps hs sv :=
  h.k hG (fun j _ => f 0 j (by omega)) (fun j => f 1 j (by omega)) (fun n j _ hs' => f n j (fun g => hs' (iSl_21 j (by omega)))) (fun n j hn => f n j (by omega))
theorem CH.sm (h : CH ad κ v ch ps hs sv) (hG : GH v ch ps hs sv K) (f : FSm ad κ κ1) : CH ad κ1 v ch ps hs sv :=
  h.k hG (fun j _ => f 0 j (by omega) (by omega) (by omega)) (fun j => f 1 j (by omega) (by omega) (by omega)) (fun n j _ hs' => f n j (fun g => hs' (iSl_21 j (by omega))) (fun g => hs' (iSl_21 j (by omega))) (fun g => hs' (by rw [g.1]; exact iSl_20 (by omega)))) (fun n j hn => f n j (by omega) (by omega) (by omega))
theorem INV_script {v' : Nat → Int32} {ch' : Nat} {ps' : Nat → Nat → Int32} {K' : Nat} (hO : OU ad κ) (hD : WD ad κ) (fc : FSc ad κ κ1) (f4 : F40 ad κ1 κ2) (fm : FSm ad κ2 κ3) (hC : CH ad κ1 v' ch' ps' hs sv) (hM : MH ad κ3 v' ch' ps' hs sv) (hG : GH v' ch' ps' hs sv K') (h8 : iS ad κ1 8 1 = 0) (h16 : iS ad κ3 20 16 = 0) (hE : EF ad κ3) : INV ad κ3 K' := by
  have e : ∀ m j, (2 ≤ m ∧ m < 100 ∧ m ≠ 8 ∧ m ≠ 10 ∧ m ≠ 11 ∧ m ≠ 40) → ¬ (21 ≤ m ∧ m ≤ 24) → m ≠ 29 → ¬ (m = 20 ∧ j ≠ 19) → iS ad κ3 m j = iS ad κ m j := fun m j h1 h2 h3 h4 => by
    unfold iS kI
    rw [fm m j h2 h3 (by omega), f4 m j (by omega), fc m j (by omega)]
  refine ⟨⟨v', ch', ps', hs, sv, (hC.s40 hG f4).sm hG fm, hM, hG⟩, hE, ⟨0, Nat.zero_le _, ?_, h16, fun j hj => absurd hj (Nat.not_lt_zero _)⟩, ?_, ?_⟩
  · have : iS ad κ3 8 1 = iS ad κ1 8 1 := by
      unfold iS kI
      rw [fm 8 1 (by omega) (by omega) (by omega), f4 8 1 (by omega)]
    rw [this]; exact h8
  · obtain ⟨L, l1, l2, l3, l4⟩ := hO
    exact ⟨L, l1, l2, l3.k (fun j => e 12 j (by omega) (by omega) (by omega) (by omega)), l4.k (fun j => e 28 j (by omega) (by omega) (by omega) (by omega)) (e 20 19 (by omega) (by omega) (by omega) (by omega))⟩
  · exact ⟨fun j hj => by rw [e 30 j (by omega) (by omega) (by omega) (by omega)]; exact hD.1 j hj, fun j hj => by rw [e 31 j (by omega) (by omega) (by omega) (by omega)]; exact hD.2 j hj⟩
theorem l_runScript (hi : ∀ a b, ad a = ad b → a = b) (hI : INV ad κ K) (hK : K < 2 ^ 29) : LSt ad (K + 64) (P_L_runScript κ (ad 0) (ad 40)) (fun κ1 => P_X7_runScript κ1 (ad 20)) := by
  obtain ⟨⟨v, ch, ps, hs, sv, h1, h2, h3⟩, ⟨hE1, hE2⟩, ⟨n, n1, n2, n3, n4⟩, hO, hD⟩ := id hI
  have hch : ch ≤ 8 := by
    obtain ⟨pr, tr, pa, su, ⟨-, -, -, -, -, c7, -⟩, -⟩ := id h1
    exact c7
  have hc := c_script (T := fun j => iS ad κ 9 j) hi h1 h3 (by omega) n1 n2 (fun j _ => rfl)
  -- the model runs behind the class
  have run : ∀ {κa κb : jKt} {v' : Nat → Int32} {ch' : Nat} {ps' : Nat → Nat → Int32} {K' : Nat}, FSc ad κ κa → F40 ad κa κb → CH ad κa v' ch' ps' hs sv → GH v' ch' ps' hs sv K' → ∃ y κ', P_X7_runScript κb (ad 20) = some (y, κ') ∧ FSm ad κb κ' ∧ iS ad κ' 20 16 = 0 ∧ match rA (fun j => iS ad κ 9 j) n 60 0 with
      | .error e => iS ad κ' 20 0 = 1 ∧ MH ad κ' v ch ps hs sv ∧ iS ad κ' 20 2 = oN e ∧ iS ad κ' 20 3 = iS ad κb 20 3
      | .ok l => match rn l v 0 with
        | .error t => iS ad κ' 20 0 = 2 ∧ MH ad κ' v ch ps hs sv ∧ iS ad κ' 20 2 = iS ad κb 20 2 ∧ iS ad κ' 20 3 = oN t
        | .ok v' => y = oN l.length ∧ iS ad κ' 20 0 = 0 ∧ MH ad κ' v' (chN ch) (psN ps ch v) hs sv ∧ iS ad κ' 20 2 = iS ad κb 20 2 ∧ iS ad κ' 20 3 = iS ad κb 20 3 := by
    intro κa κb v' ch' ps' K' fc f4 hC hG
    obtain ⟨pr, tr, pa, su, ⟨hP, -⟩, -⟩ := hC.s40 hG f4
    have e : ∀ m j, (2 ≤ m ∧ m < 100 ∧ m ≠ 8 ∧ m ≠ 10 ∧ m ≠ 11 ∧ m ≠ 40) → iS ad κb m j = iS ad κ m j := fun m j h => by
      unfold iS kI
      rw [f4 m j (by omega), fc m j (by omega)]
    exact m_script hi hP hch (h2.k (fun m j hm => e m j (by omega))) h3.1 (by omega) n1 (by rw [e 20 16 (by omega)]; exact n3) (fun j hj => by rw [e 27 j (by omega)]; exact (n4 j hj).symm) ⟨fun j hj => by rw [e 30 j (by omega)]; exact hD.1 j hj, fun j hj => by rw [e 31 j (by omega)]; exact hD.2 j hj⟩
  have up : ∀ {κa κb κ' : jKt} {j : Nat}, (j = 8 ∨ j = 9) → F40 ad κa κb → FSm ad κb κ' → iS ad κ' 0 j = iS ad κa 0 j := fun {κa κb κ' j} hj f4 fm => by
    unfold iS kI
    rw [fm 0 j (by omega) (by omega) (by omega), f4 0 j (by omega)]
  have up2 : ∀ {κa κb : jKt} {j : Nat}, FSc ad κ κa → F40 ad κa κb → iS ad κb 20 j = iS ad κ 20 j := fun {κa κb j} fc f4 => by
    unfold iS kI
    rw [f4 20 j (by omega), fc 20 j (by omega)]
  cases hA : rA (fun j => iS ad κ 9 j) n 60 0 with
  | error e =>
    rw [hA] at hc
    obtain ⟨he, κa, a1, a2, a3, a4, a5, a6⟩ := hc
    obtain ⟨y, κ', b1, b2, b3, b4⟩ := run a3 (fun _ _ _ => rfl) a2 h3
    rw [hA] at b4
    obtain ⟨b5, b6, b7, b8⟩ := b4
    have u8 := up (j := 8) (Or.inl rfl) (κa := κa) (κb := κa) (fun _ _ _ => rfl) b2
    have u9 := up (j := 9) (Or.inr rfl) (κa := κa) (κb := κa) (fun _ _ _ => rfl) b2
    have u3 := up2 (j := 3) (κb := κa) a3 (fun _ _ _ => rfl)
    refine ⟨1, κa, y, κ', ?_, b1, b5, fun q => absurd q (by decide), INV_script (K' := K + 64) hO hD a3 (fun _ _ _ => rfl) b2 a2 b6 (h3.up (by omega)) a4 b3 ?_⟩
    · unfold P_L_runScript
      rw [a1, bdx2_e]
      rfl
    · unfold EF
      rw [u8, u9, a5, a6, b7, b8, u3]
      exact ⟨⟨rfl, Or.inr (Int32.not_lt.mp (oN_nneg (by omega)))⟩, hE2⟩
  | ok l =>
    rw [hA] at hc
    simp only [] at hc
    have hl := rA_len _ _ _ hA
    cases hN : rn l v 0 with
    | error t =>
      rw [hN] at hc
      obtain ⟨he, κa, a1, a2, a3, a4, a5, a6⟩ := hc
      obtain ⟨y, κ', b1, b2, b3, b4⟩ := run a3 (fun _ _ _ => rfl) a2 h3
      rw [hA] at b4
      simp only [] at b4
      rw [hN] at b4
      obtain ⟨b5, b6, b7, b8⟩ := b4
      have u8 := up (j := 8) (Or.inl rfl) (κa := κa) (κb := κa) (fun _ _ _ => rfl) b2
      have u9 := up (j := 9) (Or.inr rfl) (κa := κa) (κb := κa) (fun _ _ _ => rfl) b2
      have u2 := up2 (j := 2) (κb := κa) a3 (fun _ _ _ => rfl)
      refine ⟨2, κa, y, κ', ?_, b1, b5, fun q => absurd q (by decide), INV_script (K' := K + 64) hO hD a3 (fun _ _ _ => rfl) b2 a2 b6 (h3.up (by omega)) a4 b3 ?_⟩
      · unfold P_L_runScript
        rw [a1, bdx2_e]
        rfl
      · unfold EF
        rw [u8, u9, a5, a6, b7, b8, u2]
        exact ⟨hE1, rfl, Or.inr (Int32.not_lt.mp (oN_nneg (by omega)))⟩
    | ok v' =>
      rw [hN] at hc
      obtain ⟨hG', κa, a1, a2, a3, a4, a5, a6⟩ := hc
      have f4 : F40 ad κa (kU κa (ad 40) 0 (.long (oN l.length).toInt64)) := fun m j hm => kUn hi (by omega)
      obtain ⟨y, κ', b1, b2, b3, b4⟩ := run a3 f4 a2 hG'
      rw [hA] at b4
      simp only [] at b4
      rw [hN] at b4
      obtain ⟨b5, b6, b7, b8, b9⟩ := b4
      have u8 := up (j := 8) (Or.inl rfl) f4 b2
      have u9 := up (j := 9) (Or.inr rfl) f4 b2
      have u2 := up2 (j := 2) a3 f4
      have u3 := up2 (j := 3) a3 f4
      refine ⟨0, kU κa (ad 40) 0 (.long (oN l.length).toInt64), y, κ', ?_, b1, b6, fun _ => ?_, INV_script (K' := K + 64) hO hD a3 f4 b2 a2 b7 (hG'.up (by omega)) a4 b3 ?_⟩
      · unfold P_L_runScript
        rw [a1, bdx2_o]
        rfl
      · have : kL κ' (ad 40) 0 = kL (kU κa (ad 40) 0 (.long (oN l.length).toInt64)) (ad 40) 0 := by
          unfold kL
          rw [b2 40 0 (by omega) (by omega) (by omega)]
        rw [this, kL_U hi, b5]
      · unfold EF
        rw [u8, u9, a5, a6, b8, b9, u2, u3]
        exact ⟨hE1, hE2⟩
end RUNSCRIPT
