/-! ===== layer 3: runScript in the model ===== -/
section SCRIPTM
variable {ad : Nat → Nat} {κ κ1 κ2 : jKt} {T : Nat → Int32} {n : Nat} {v : Nat → Int32} {K ch : Nat} {ps : Nat → Nat → Int32} {hs : Int32} {sv : Nat → Int32} {pr tr : Nat} {pa : Nat → Nat} {su : Nat → Nat → Nat}
/-- what the model's runScript may change -/
def FSm (ad : Nat → Nat) (κ κ' : jKt) : Prop := ∀ m j, ¬ (21 ≤ m ∧ m ≤ 24) → m ≠ 29 → ¬ (m = 20 ∧ (j = 0 ∨ j = 1 ∨ j = 2 ∨ j = 3 ∨ j = 16 ∨ j = 17 ∨ j = 18 ∨ j = 20 ∨ j = 21)) → κ' (ad m) j = κ (ad m) j
theorem FSm.trans (h : FSm ad κ κ1) (g : FSm ad κ1 κ2) : FSm ad κ κ2 := fun m j a b c => (g m j a b c).trans (h m j a b c)
theorem FSm.U (hi : ∀ a b, ad a = ad b → a = b) {i : Nat} {w : Value} (h : i = 0 ∨ i = 1 ∨ i = 2 ∨ i = 3 ∨ i = 16 ∨ i = 17 ∨ i = 18 ∨ i = 20 ∨ i = 21) : FSm ad κ (kU κ (ad 20) i w) := fun m j _ _ c => kUn hi (by omega)
theorem FPs.s (h : FPs ad κ κ1) : FSm ad κ κ1 := fun m j a b c => h m j (by omega) b (by omega)
theorem FMd.s (h : FMd ad κ κ1) : FSm ad κ κ1 := fun m j a b c => h m j a (by omega)
theorem FSm.pt (h : FSm ad κ κ1) (hP : PT ad κ pr tr pa su) : PT ad κ1 pr tr pa su := PT_K hP (fun b k hb => by
  unfold kR
  rw [h b k (fun g => hb (iSl_21 k ⟨g.1, by omega⟩)) (fun g => hb (iSl_21 k (by omega))) (fun g => hb (by rw [g.1]; exact iSl_20 (by omega)))])
/-- from the first letter on -/
theorem m_start (hi : ∀ a b, ad a = ad b → a = b) (hP : PT ad κ pr tr pa su) (hn : n ≤ 60) (h18 : kI κ (ad 20) 18 = oN n) (hT : ∀ j, j < n → kI κ (ad 27) j = T j) (hW : WD ad κ) :
    SM ad (kU (kU κ (ad 20) 17 (.int 0)) (ad 20) 20 (.int 0)) T n 0 0 ∧ MW ad (kU (kU κ (ad 20) 17 (.int 0)) (ad 20) 20 (.int 0)) := by
  obtain ⟨w1, w2⟩ := hW
  have e0 := hP.2.2.2.2.1
  refine ⟨⟨⟨hn, Nat.zero_le _, ?_, ?_, fun j hj => ?_⟩, ?_, ?_⟩, ?_, ?_, ?_, fun j hj => ?_, fun j hj => ?_⟩
  · rw [kR_Un hi (by omega), kR_Un hi (by omega)]; exact e0 6 (by omega)
  · rw [kI_Un hi, if_neg (by omega), kI_Un hi, if_neg (by omega)]; exact h18
  · rw [kI_Un hi, if_neg (by omega), kI_Un hi, if_neg (by omega)]; exact hT j hj
  · rw [kI_Un hi, if_neg (by omega), kI_Un hi, if_pos ⟨rfl, rfl⟩]; rfl
  · rw [kI_Un hi, if_pos ⟨rfl, rfl⟩]
  · rw [kR_Un hi (by omega), kR_Un hi (by omega)]; exact e0 8 (by omega)
  · rw [kR_Un hi (by omega), kR_Un hi (by omega)]; exact e0 9 (by omega)
  · rw [kR_Un hi (by omega), kR_Un hi (by omega)]; exact e0 10 (by omega)
  · rw [iS_U hi, if_neg (by omega), iS_U hi, if_neg (by omega)]; exact w1 j hj
  · rw [iS_U hi, if_neg (by omega), iS_U hi, if_neg (by omega)]; exact w2 j hj
theorem m_script (hi : ∀ a b, ad a = ad b → a = b) (hP : PT ad κ pr tr pa su) (hch : ch ≤ 8) (hM : MH ad κ v ch ps hs sv) (hX : GX v K) (hK : K + 64 < 2 ^ 30) (hn : n ≤ 60) (h16 : iS ad κ 20 16 = oN n) (hT : ∀ j, j < n → iS ad κ 27 j = T j) (hW : WD ad κ) :
    ∃ y κ', P_X7_runScript κ (ad 20) = some (y, κ') ∧ FSm ad κ κ' ∧ iS ad κ' 20 16 = 0 ∧ match rA T n 60 0 with
      | .error e => iS ad κ' 20 0 = 1 ∧ MH ad κ' v ch ps hs sv ∧ iS ad κ' 20 2 = oN e ∧ iS ad κ' 20 3 = iS ad κ 20 3
      | .ok l => match rn l v 0 with
        | .error t => iS ad κ' 20 0 = 2 ∧ MH ad κ' v ch ps hs sv ∧ iS ad κ' 20 2 = iS ad κ 20 2 ∧ iS ad κ' 20 3 = oN t
        | .ok v' => y = oN l.length ∧ iS ad κ' 20 0 = 0 ∧ MH ad κ' v' (chN ch) (psN ps ch v) hs sv ∧ iS ad κ' 20 2 = iS ad κ 20 2 ∧ iS ad κ' 20 3 = iS ad κ 20 3 := by
  obtain ⟨m1, m2, m3, m4, m5⟩ := hM
  obtain ⟨κ1, a1, a2, a3, a4⟩ := X7_begins hi hP
  -- before the first pass
  have I1 : ∀ m j, m ≠ 22 → ¬ (m = 20 ∧ j = 0) → iS ad κ1 m j = iS ad κ m j := fun m j n1 n2 => by unfold iS kI; rw [a4 m j n1 n2]
  have z16 : kI κ1 (ad 20) 16 = oN n := (I1 20 16 (by omega) (by omega)).trans h16
  generalize hκ4 : kU (kU (kU κ1 (ad 20) 18 (.int (kI κ1 (ad 20) 16))) (ad 20) 16 (.int 0)) (ad 20) 21 (.int 0) = κ4
  have G4 : ∀ m j, m ≠ 22 → ¬ (m = 20 ∧ (j = 0 ∨ j = 18 ∨ j = 16 ∨ j = 21)) → κ4 (ad m) j = κ (ad m) j := fun m j n1 n2 => by
    rw [← hκ4, kUn hi (by omega), kUn hi (by omega), kUn hi (by omega)]
    exact a4 m j n1 (by omega)
  have I4 : ∀ m j, m ≠ 22 → ¬ (m = 20 ∧ (j = 0 ∨ j = 18 ∨ j = 16 ∨ j = 21)) → iS ad κ4 m j = iS ad κ m j := fun m j n1 n2 => by unfold iS kI; rw [G4 m j n1 n2]
  have s18 : iS ad κ4 20 18 = oN n := by rw [← hκ4, iS_U hi, if_neg (by omega), iS_U hi, if_neg (by omega), iS_U hi, if_pos ⟨rfl, rfl⟩]; exact z16
  have s16 : iS ad κ4 20 16 = 0 := by rw [← hκ4, iS_U hi, if_neg (by omega), iS_U hi, if_pos ⟨rfl, rfl⟩]
  have s21 : iS ad κ4 20 21 = 0 := by rw [← hκ4, iS_U hi, if_pos ⟨rfl, rfl⟩]
  have s0 : iS ad κ4 20 0 = 0 := by rw [← hκ4, iS_U hi, if_neg (by omega), iS_U hi, if_neg (by omega), iS_U hi, if_neg (by omega)]; exact a2
  have b4 : ∀ j, j < 457 → iS ad κ4 22 j = v j := fun j hj => by
    have e : iS ad κ4 22 j = iS ad κ1 22 j := by
      unfold iS kI
      rw [← hκ4, kUn hi (by omega), kUn hi (by omega), kUn hi (by omega)]
    rw [e, a3 j hj]; exact m1 j
  have f4 : FSm ad κ κ4 := fun m j n1 n2 n3 => G4 m j (by omega) (by omega)
  have hP4 := f4.pt hP
  have hW4 : WD ad κ4 := ⟨fun j hj => by rw [I4 _ _ (by omega) (by omega)]; exact hW.1 j hj, fun j hj => by rw [I4 _ _ (by omega) (by omega)]; exact hW.2 j hj⟩
  have hT4 : ∀ j, j < n → kI κ4 (ad 27) j = T j := fun j hj => by
    have := I4 27 j (by omega) (by omega)
    unfold iS at this
    rw [this]; exact hT j hj
  obtain ⟨hS5, hW5⟩ := m_start hi hP4 hn s18 hT4 hW4
  obtain ⟨y1, κ6, c1, c2, c3⟩ := m_pass1 hi 60 4000 0 _ 1 (by omega) (by omega) hW5 hS5 (by rw [kI_Un hi, if_neg (by omega), kI_Un hi, if_neg (by omega)]; exact s21) (by rw [kI_Un hi, if_neg (by omega), kI_Un hi, if_neg (by omega)]; exact s0)
  have fw5 : Fw ad κ4 (kU (kU κ4 (ad 20) 17 (.int 0)) (ad 20) 20 (.int 0)) := ((Fq.U hi (Or.inl rfl) _).trans (Fq.U hi (Or.inr rfl) _)).w
  have fw6 := fw5.trans c2
  have e1 : P_X7_commands κ4 (ad 20) = some (y1, κ6) := by
    unfold P_X7_commands
    rw [bnd_e, bnd_e]
    exact c1
  have f6 : FSm ad κ κ6 := f4.trans fw6.v.s
  have hP6 := f6.pt hP
  have I6 : ∀ m j, ¬ (m = 20 ∧ (j = 17 ∨ j = 20)) → m ≠ 29 → iS ad κ6 m j = iS ad κ4 m j := fun m j n1 n2 => fw6.ki n1 n2
  have mk6 : MH ad κ6 v ch ps hs sv := ⟨fun j => by rw [I6 _ _ (by omega) (by omega), I4 _ _ (by omega) (by omega)]; exact m1 j, by rw [I6 _ _ (by omega) (by omega), I4 _ _ (by omega) (by omega)]; exact m2, fun i hic j hj => by rw [I6 _ _ (by omega) (by omega), I4 _ _ (by omega) (by omega)]; exact m3 i hic j hj, by rw [I6 _ _ (by omega) (by omega), I4 _ _ (by omega) (by omega)]; exact m4, fun z j hj => by rw [I6 _ _ (by omega) (by omega), I4 _ _ (by omega) (by omega)]; exact m5 z j hj⟩
  have head : P_X7_runScript κ (ad 20) = (if kI κ6 (ad 20) 20 = 0 then
      bnd (kU κ6 (ad 20) 21 (.int 1)) fun κ79 => bd2 (P_X7_commands κ79 (ad 20)) fun y82 κ83 =>
        if (kI κ83 (ad 20) 0) = 0 then bd2 (P_X7_ends κ83 (ad 20) y82) fun y86 κ87 => some (y86, κ87)
        else bnd (kU κ83 (ad 20) 3 (.int (y82 - 1))) fun κ88 => bnd (kU κ88 (ad 20) 0 (.int 2)) fun κ90 => bd2 (P_X7_ends κ90 (ad 20) y82) fun y93 κ94 => some (y93, κ94)
      else bnd (kU κ6 (ad 20) 2 (.int (kI κ6 (ad 20) 17))) fun κ95 => bd2 (P_X7_fail κ95 (ad 20) 1) fun y98 κ99 => some (y98, κ99)) := by
    unfold P_X7_runScript
    rw [a1, bd_s, bnd_e, bnd_e, bnd_e, hκ4, e1, bd2_s]
  cases hA : rA T n 60 0 with
  | error e =>
    rw [hA] at c3
    have c3' : SM ad κ6 T n e 1 := c3
    refine ⟨0, kU (kU κ6 (ad 20) 2 (.int (kI κ6 (ad 20) 17))) (ad 20) 0 (.int 1), ?_, (f6.trans (FSm.U hi (by omega))).trans (FSm.U hi (by omega)), ?_, ?_, ?_, ?_, ?_⟩
    · rw [head, if_neg (by rw [c3'.2.2]; decide), bnd_e]; rfl
    · rw [iS_U hi, if_neg (by omega), iS_U hi, if_neg (by omega), I6 _ _ (by omega) (by omega)]; exact s16
    · rw [iS_U hi, if_pos ⟨rfl, rfl⟩]
    · exact mk6.k (fun m j hm => by rw [iS_U hi, if_neg (by omega), iS_U hi, if_neg (by omega)])
    · rw [iS_U hi, if_neg (by omega), iS_U hi, if_pos ⟨rfl, rfl⟩]; exact c3'.2.1
    · rw [iS_U hi, if_neg (by omega), iS_U hi, if_neg (by omega), I6 _ _ (by omega) (by omega), I4 _ _ (by omega) (by omega)]
  | ok l =>
    rw [hA] at c3
    have c3' : kI κ6 (ad 20) 20 = 0 := c3
    -- the second pass
    generalize hκ7 : kU κ6 (ad 20) 21 (.int 1) = κ7
    have I7 : ∀ m j, ¬ (m = 20 ∧ j = 21) → iS ad κ7 m j = iS ad κ6 m j := fun m j h => by rw [← hκ7, iS_U hi, if_neg (by omega)]
    have f7 : FSm ad κ κ7 := by rw [← hκ7]; exact f6.trans (FSm.U hi (by omega))
    have hP7 := f7.pt hP
    have hW7 : WD ad κ7 := ⟨fun j hj => by rw [I7 _ _ (by omega), I6 _ _ (by omega) (by omega)]; exact hW4.1 j hj, fun j hj => by rw [I7 _ _ (by omega), I6 _ _ (by omega) (by omega)]; exact hW4.2 j hj⟩
    have hT7 : ∀ j, j < n → kI κ7 (ad 27) j = T j := fun j hj => by
      have e2 := (I7 27 j (by omega)).trans (I6 27 j (by omega) (by omega))
      unfold iS at e2
      rw [e2]; exact hT4 j hj
    have t18 : kI κ7 (ad 20) 18 = oN n := ((I7 20 18 (by omega)).trans (I6 20 18 (by omega) (by omega))).trans s18
    have t21 : kI κ7 (ad 20) 21 = 1 := by rw [← hκ7, kI_Un hi, if_pos ⟨rfl, rfl⟩]
    have t0 : kI κ7 (ad 20) 0 = 0 := ((I7 20 0 (by omega)).trans (I6 20 0 (by omega) (by omega))).trans s0
    obtain ⟨hS8, hW8⟩ := m_start hi hP7 hn t18 hT7 hW7
    have fw8 : Fw ad κ7 (kU (kU κ7 (ad 20) 17 (.int 0)) (ad 20) 20 (.int 0)) := ((Fq.U hi (Or.inl rfl) _).trans (Fq.U hi (Or.inr rfl) _)).w
    have m7 : ∀ j, iS ad κ7 21 j = v j := fun j => (I7 21 j (by omega)).trans (mk6.1 j)
    obtain ⟨y2, κ9, d1, d2, d3⟩ := m_pass2 hi 60 4000 0 0 _ v K l hA (by omega) (by omega) hW8 hS8 (by rw [fw8.ki (by omega) (by omega)]; exact t21) (by rw [fw8.ki (by omega) (by omega)]; exact t0) (fw8.v.pt hP7) (fun j => by unfold iS; rw [fw8.ki (by omega) (by omega)]; exact m7 j) hX (by omega)
    have e2 : P_X7_commands κ7 (ad 20) = some (y2, κ9) := by
      unfold P_X7_commands
      rw [bnd_e, bnd_e]
      exact d1
    have fv9 := fw8.v.trans d2
    have f9 : FSm ad κ κ9 := f7.trans fv9.s
    have hP9 := f9.pt hP
    have I9 : ∀ m j, ¬ (m = 20 ∧ (j = 0 ∨ j = 17 ∨ j = 20)) → m ≠ 29 → m ≠ 21 → iS ad κ9 m j = iS ad κ7 m j := fun m j n1 n2 n3 => fv9.ki n1 n2 n3
    have I96 : ∀ m j, ¬ (m = 20 ∧ (j = 0 ∨ j = 17 ∨ j = 20 ∨ j = 21)) → m ≠ 29 → m ≠ 21 → iS ad κ9 m j = iS ad κ6 m j := fun m j n1 n2 n3 => (I9 m j (by omega) n2 n3).trans (I7 m j (by omega))
    have mk9 : ∀ w, (∀ j, iS ad κ9 21 j = w j) → MH ad κ9 w ch ps hs sv := fun w hw => ⟨hw, by rw [I96 _ _ (by omega) (by omega) (by omega)]; exact mk6.2.1, fun i hic j hj => by rw [I96 _ _ (by omega) (by omega) (by omega)]; exact mk6.2.2.1 i hic j hj, by rw [I96 _ _ (by omega) (by omega) (by omega)]; exact mk6.2.2.2.1, fun z j hj => by rw [I96 _ _ (by omega) (by omega) (by omega)]; exact mk6.2.2.2.2 z j hj⟩
    have b9 : ∀ j, j < 457 → iS ad κ9 22 j = v j := fun j hj => by rw [I96 _ _ (by omega) (by omega) (by omega), I6 _ _ (by omega) (by omega)]; exact b4 j hj
    have h16' : iS ad κ9 20 16 = 0 := by rw [I96 _ _ (by omega) (by omega) (by omega), I6 _ _ (by omega) (by omega)]; exact s16
    have h2' : iS ad κ9 20 2 = iS ad κ 20 2 := by rw [I96 _ _ (by omega) (by omega) (by omega), I6 _ _ (by omega) (by omega), I4 _ _ (by omega) (by omega)]
    have h3' : iS ad κ9 20 3 = iS ad κ 20 3 := by rw [I96 _ _ (by omega) (by omega) (by omega), I6 _ _ (by omega) (by omega), I4 _ _ (by omega) (by omega)]
    rw [head, if_pos c3', bnd_e, hκ7, e2, bd2_s]
    simp only []
    cases hN : rn l v 0 with
    | error t =>
      rw [hN] at d3
      obtain ⟨g1, g2, w, g3, g4⟩ := d3
      have ey : (y2 - 1 : Int32) = oN t := by rw [g1, show (1 : Int32) = oN 1 from rfl, oN_sub (by omega)]; rfl
      generalize hκ11 : kU (kU κ9 (ad 20) 3 (.int (y2 - 1))) (ad 20) 0 (.int 2) = κ11
      have f11 : FSm ad κ9 κ11 := by rw [← hκ11]; exact (FSm.U hi (by omega)).trans (FSm.U hi (by omega))
      have I11 : ∀ m j, ¬ (m = 20 ∧ (j = 0 ∨ j = 3)) → iS ad κ11 m j = iS ad κ9 m j := fun m j h => by rw [← hκ11, iS_U hi, if_neg (by omega), iS_U hi, if_neg (by omega)]
      have u0 : iS ad κ11 20 0 = 2 := by rw [← hκ11, iS_U hi, if_pos ⟨rfl, rfl⟩]
      have u3 : iS ad κ11 20 3 = oN t := by rw [← hκ11, iS_U hi, if_neg (by omega), iS_U hi, if_pos ⟨rfl, rfl⟩]; exact ey
      obtain ⟨κ12, i1, i2, i3, i4⟩ := X7_endsE (v0 := v) hi (f11.pt hP9) (by rw [u0]; decide) ((mk9 w g3).k (fun m j hm => I11 m j (by omega))) (fun j hj => by rw [I11 _ _ (by omega)]; exact b9 j hj) g4 y2
      rw [if_neg g2, bnd_e, bnd_e, hκ11, i1, bd2_s]
      refine ⟨0, κ12, rfl, (f9.trans f11).trans i4.s, ?_, ?_, i3, ?_, ?_⟩
      · rw [i4.i (by omega) (by omega), I11 _ _ (by omega)]; exact h16'
      · rw [i2]; exact u0
      · rw [i4.i (by omega) (by omega), I11 _ _ (by omega)]; exact h2'
      · rw [i4.i (by omega) (by omega)]; exact u3
    | ok v' =>
      rw [hN] at d3
      obtain ⟨g1, g2, g3⟩ := d3
      obtain ⟨κ12, i1, i2, i3, i4⟩ := X7_ends0 (v0 := v) hi hP9 hch g2 (mk9 v' g3) b9 y2
      rw [if_pos g2, i1, bd2_s]
      refine ⟨y2, κ12, rfl, f9.trans i4.s, ?_, ?_, i2, i3, ?_, ?_⟩
      · rw [i4.i (by omega) (by omega)]; exact h16'
      · rw [g1, Nat.zero_add]
      · rw [i4.i (by omega) (by omega)]; exact h2'
      · rw [i4.i (by omega) (by omega)]; exact h3'
end SCRIPTM
