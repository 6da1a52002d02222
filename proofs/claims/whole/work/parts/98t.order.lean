/-! ===== layer 3: the calls of the law: the order of the sewing, rendered ===== -/
section REND
variable {ad : Nat → Nat} {κ κ1 κ2 κ3 : jKt} {pr tr : Nat} {pa : Nat → Nat} {su : Nat → Nat → Nat} {v : Nat → Int32} {K : Nat}
noncomputable def eO (v : Nat → Int32) (s : Nat) (i : Nat) : Nat := (ordS v s).getD i 0
theorem eO_get {s t : Nat} (h : t < (ordS v s).length) : eO v s t = (ordS v s)[t] := by
  unfold eO
  simp only [List.getD_eq_getElem?_getD, List.getElem?_eq_getElem h, Option.getD_some]
theorem eO_lt {s : Nat} (h16 : sl v s ≤ 16) (i : Nat) : eO v s i < 16 := by
  by_cases h : i < (ordS v s).length
  · rw [eO_get h]
    have := ord_lt (n := sl v s) (E := dmB v s) (left0 v s) (sew0 v s) _ (List.getElem_mem h)
    omega
  · unfold eO
    rw [List.getD_eq_getElem?_getD, List.getElem?_eq_none (by omega)]
    decide
theorem ordS_l16 {s : Nat} (h16 : sl v s ≤ 16) : (ordS v s).length ≤ 16 := by
  have h1 : (ordS v s).length ≤ left0 v s := ord_len _ _
  have h2 := cn_le (fun l => !sew0 v s l) (sl v s)
  unfold left0 at h1
  omega
theorem c_renderO (hi : ∀ a b, ad a = ad b → a = b) (h : PS ad κ pr tr pa su v K) (id : Int32) : match fd v id with
    | none => P_X6_renderOrder κ (ad 0) id = some (.error "java/util/NoSuchElementException", κ)
    | some s => ∃ κ', P_X6_renderOrder κ (ad 0) id = some (.ok (oN (txP (eO v s) 0 (ordS v s).length).length), κ') ∧ CT ad κ' (txP (eO v s) 0 (ordS v s).length) ∧ Fr ad (fun n => n = 3 ∨ n = 12) κ κ' := by
  unfold P_X6_renderOrder
  rw [X6_existing h]
  cases hf : fd v id with
  | none => rfl
  | some s =>
    obtain ⟨hs, -⟩ := fd_some hf
    have hG := h.2.2.2.1.1
    have m6 := hG.2.1.2.2
    have h16 := (hG.sl16 hs).1
    have k6 := h.1.s6 h.2.1 (i := s) (by omega)
    have hlen := ordS_l16 (v := v) (s := s) h16
    simp only []
    obtain ⟨κs, a1, a2, a3⟩ := X1_scan hi h.1 (r := pr) (k := su pr s) (by have := h.2.1; omega) k6 (h.sv hs) hG hs
    have hps : PS ad κs pr tr pa su v K := h.zf (fun n j a => a2 n j (fun g => absurd (Or.inl g) a))
    have p2 : ∀ κ1, PS ad κ1 pr tr pa su v K → kR κ1 (ad 0) 6 = ad 2 := fun κ1 q => q.1.1.2.2.2.2.1
    have p3 : ∀ κ1, PS ad κ1 pr tr pa su v K → kR κ1 (ad 2) 0 = ad 3 := fun κ1 q => q.1.2.2.1.1
    have F0 : Fr ad (fun n => n = 12) κs (kU κs (ad 12) 0 (.int 0)) := Fr.U hi (iSl_12 _) rfl
    have T0 : CT ad (kU κs (ad 12) 0 (.int 0)) [] := ⟨by rw [iS_U hi, if_pos ⟨rfl, rfl⟩]; rfl, fun t ht => by cases ht⟩
    have W : ∀ (k i f : Nat) (κ1 : jKt) (L : List Nat), i + k = (ordS v s).length → k < f → PS ad κ1 pr tr pa su v K → Fr ad (fun n => n = 12) κs κ1 → CT ad κ1 L → L.length + 3 * k ≤ 64 →
        ∃ κ', P_X6_renderOrder_23 (ad 0) (oN (ordS v s).length) f κ1 (oN i) = some (.ok (oN (L ++ txP (eO v s) i k).length), κ') ∧ CT ad κ' (L ++ txP (eO v s) i k) ∧ Fr ad (fun n => n = 12) κs κ' := by
      intro k
      induction k with
      | zero =>
        intro i f κ1 L g1 g2 hp hF hT hl
        obtain ⟨f, rfl⟩ : ∃ g, f = g + 1 := ⟨f - 1, by omega⟩
        have e0 : P_J4_length_8abf5 κ1 (ad 12) = some (oN L.length) := congrArg some hT.1
        refine ⟨κ1, ?_, by rw [show txP (eO v s) i 0 = [] from rfl, List.append_nil]; exact hT, hF⟩
        rw [P_X6_renderOrder_23, if_pos ((oN_le (by omega) (by omega)).mpr (by omega)), hp.1.ou, e0, bd_s, show txP (eO v s) i 0 = [] from rfl, List.append_nil]
      | succ k ih =>
        intro i f κ1 L g1 g2 hp hF hT hl
        obtain ⟨f, rfl⟩ : ∃ g, f = g + 1 := ⟨f - 1, by omega⟩
        have e1 : (oN i + 1 : Int32) = oN (i + 1) := oN_add _ 1
        have step : ∀ (κ2 : jKt) (S : List Nat), S.length ≤ 1 → PS ad κ2 pr tr pa su v K → Fr ad (fun n => n = 12) κs κ2 → CT ad κ2 (L ++ S) → S = (if i = 0 then [] else [44]) → ∃ κ', P_X6_renderOrder_42 κ2 (ad 0) (oN (ordS v s).length) (oN i) (P_X6_renderOrder_23 (ad 0) (oN (ordS v s).length) f) = some (.ok (oN (L ++ txP (eO v s) i (k + 1)).length), κ') ∧ CT ad κ' (L ++ txP (eO v s) i (k + 1)) ∧ Fr ad (fun n => n = 12) κs κ' := by
          intro κ2 S hSl hp2 hF2 hT2 hS
          have hit : i < (ordS v s).length := by omega
          have hv : kI κ2 (ad 3) i = oN (eO v s i) := by
            rw [eO_get hit]
            have q1 : iS ad κ2 3 i = iS ad κs 3 i := hF2.i (by decide) i
            have q2 := a3 i hit
            rw [Nat.zero_add] at q2
            exact q1.trans q2
          have hn := (numL_len (x := eO v s i)).2
          have h15 := eO_lt (v := v) (s := s) h16 i
          obtain ⟨κ3, b1, b2, b3⟩ := ap_n (x := eO v s i) hi hT2 (by simp only [List.length_append]; omega) (by omega)
          obtain ⟨κ', c1, c2, c3⟩ := ih (i + 1) f κ3 ((L ++ S) ++ numL (eO v s i)) (by omega) (by omega) (hp2.f12 b3) (hF2.trans b3) b2 (by simp only [List.length_append]; omega)
          have eL : (L ++ S) ++ numL (eO v s i) ++ txP (eO v s) (i + 1) k = L ++ txP (eO v s) i (k + 1) := by
            rw [show txP (eO v s) i (k + 1) = (if i = 0 then [] else [44]) ++ (numL (eO v s i) ++ txP (eO v s) (i + 1) k) from rfl, ← hS]
            simp only [List.append_assoc]
          rw [eL] at c1 c2
          unfold P_X6_renderOrder_42
          rw [ck_t (jin_N (by omega) (by omega)), hp2.1.ou, p2 κ2 hp2, p3 κ2 hp2, oN_ix (by omega), hv, b1, bd2_s, e1]
          exact ⟨κ', c1, c2, c3⟩
        rw [P_X6_renderOrder_23, if_neg (fun h => by have := (oN_le (by omega) (by omega)).mp h; omega)]
        by_cases z : i = 0
        · subst z
          rw [if_pos (by decide)]
          exact step κ1 [] (by simp) hp hF (by rw [List.append_nil]; exact hT) rfl
        · rw [if_neg (show ¬ oN i ≤ 0 from fun q => by have := (oN_le (b := 0) (by omega) (by omega)).mp q; omega)]
          obtain ⟨κ2, d1, d2, d3⟩ := ap_c (c := 44) hi hT (by omega) (by omega)
          rw [hp.1.ou, show (44 : Int32) = oN 44 from rfl, d1, bd2_s]
          exact step κ2 [44] (by simp) (hp.f12 d3) (hF.trans d3) d2 (by rw [if_neg z])
    obtain ⟨κ', q1, q2, q3⟩ := W (ordS v s).length 0 17 _ [] (by omega) (by omega) (hps.f12 F0) F0 T0 (by simp only [List.length_nil]; omega)
    rw [List.nil_append] at q1 q2
    refine ⟨κ', ?_, q2, (a2.mono (fun n hn => Or.inl hn)).trans (q3.mono (fun n hn => Or.inr hn))⟩
    have q1' : P_X6_renderOrder_23 (ad 0) (oN (ordS v s).length) 17 (kU κs (ad 12) 0 (.int 0)) 0 = some (.ok (oN (txP (eO v s) 0 (ordS v s).length).length), κ') := q1
    unfold P_J4_setLength_d00df
    rw [bdx_o, p2 κ h, a1, bd2_s, hps.1.ou, ck_t rfl, bd_s, q1']
theorem m_renderO (hi : ∀ a b, ad a = ad b → a = b) (h : PS ad κ pr tr pa su v K) (id : Int32) : match fd v id with
    | none => ∃ κ', P_X7_renderOrder κ (ad 20) id = some (0, κ') ∧ iS ad κ' 20 0 = 1 ∧ ZF ad κ κ'
    | some s => ∃ κ', P_X7_renderOrder κ (ad 20) id = some (oN (txP (eO v s) 0 (ordS v s).length).length, κ') ∧ MT ad κ' (txP (eO v s) 0 (ordS v s).length) ∧ iS ad κ' 20 0 = 0 ∧ ∀ n j, n ≠ 25 → n ≠ 26 → n ≠ 28 → ¬ (n = 20 ∧ (j = 0 ∨ j = 19)) → κ' (ad n) j = κ (ad n) j := by
  unfold P_X7_renderOrder P_X7_renderOrder_14
  have hG := h.2.2.2.1.1
  have m6 := hG.2.1.2.2
  rw [h.find]
  cases hf : fd v id with
  | none =>
    obtain ⟨h1, h2, h3⟩ := h.thr hi 1
    simp only []
    rw [bd_s, if_neg nneg1, bnd_e, h2, if_neg (by decide)]
    exact ⟨_, rfl, h2, h3⟩
  | some s =>
    obtain ⟨hs, -⟩ := fd_some hf
    have h16 := (hG.sl16 hs).1
    have hlen := ordS_l16 (v := v) (s := s) h16
    obtain ⟨h1, h2, h3⟩ := h.thr hi 0
    have hf2 := h1.find id
    rw [hf] at hf2
    simp only [] at hf2
    simp only []
    obtain ⟨κs, a1, a2, a3⟩ := X7_sorts hi h1.1 (h1.ms.mv h1.1) hG hs
    have hps : PS ad κs pr tr pa su v K := h1.zf (fun n j a => a2 n j (fun g => absurd (by unfold Zf; omega) a))
    have p9 : ∀ κ1, PS ad κ1 pr tr pa su v K → kR κ1 (ad 20) 9 = ad 25 := fun κ1 q => q.1.2.2.2.2.1 4 (by omega)
    have F0 : FT ad κs (kU κs (ad 20) 19 (.int 0)) := fun n j n1 n2 => by
      unfold kU
      rw [if_neg (fun g => n2 ⟨hi _ _ g.1, g.2⟩)]
    have T0 : MT ad (kU κs (ad 20) 19 (.int 0)) [] := ⟨by rw [iS_U hi, if_pos ⟨rfl, rfl⟩]; rfl, fun t ht => by cases ht⟩
    have W : ∀ (k i f : Nat) (κ1 : jKt) (L : List Nat), i + k = (ordS v s).length → k < f → PS ad κ1 pr tr pa su v K → FT ad κs κ1 → MT ad κ1 L → L.length + 3 * k ≤ 64 →
        ∃ κ', P_X7_renderOrder_43 (ad 20) (oN (ordS v s).length) f κ1 (oN i) = some (oN (L ++ txP (eO v s) i k).length, κ') ∧ MT ad κ' (L ++ txP (eO v s) i k) ∧ FT ad κs κ' := by
      intro k
      induction k with
      | zero =>
        intro i f κ1 L g1 g2 hp hF hT hl
        obtain ⟨f, rfl⟩ : ∃ g, f = g + 1 := ⟨f - 1, by omega⟩
        have e0 : kI κ1 (ad 20) 19 = oN L.length := hT.1
        refine ⟨κ1, ?_, by rw [show txP (eO v s) i 0 = [] from rfl, List.append_nil]; exact hT, hF⟩
        rw [P_X7_renderOrder_43, if_pos ((oN_le (by omega) (by omega)).mpr (by omega)), e0, show txP (eO v s) i 0 = [] from rfl, List.append_nil]
      | succ k ih =>
        intro i f κ1 L g1 g2 hp hF hT hl
        obtain ⟨f, rfl⟩ : ∃ g, f = g + 1 := ⟨f - 1, by omega⟩
        have e1 : (oN i + 1 : Int32) = oN (i + 1) := oN_add _ 1
        have step : ∀ (κ2 : jKt) (S : List Nat), S.length ≤ 1 → PS ad κ2 pr tr pa su v K → FT ad κs κ2 → MT ad κ2 (L ++ S) → S = (if i = 0 then [] else [44]) → ∃ κ', (bd (P_X7_writesNumber κ2 (ad 20) (kI κ2 (ad 25) i)) fun κ56 => P_X7_renderOrder_43 (ad 20) (oN (ordS v s).length) f κ56 (oN (i + 1))) = some (oN (L ++ txP (eO v s) i (k + 1)).length, κ') ∧ MT ad κ' (L ++ txP (eO v s) i (k + 1)) ∧ FT ad κs κ' := by
          intro κ2 S hSl hp2 hF2 hT2 hS
          have hit : i < (ordS v s).length := by omega
          have hv : kI κ2 (ad 25) i = oN (eO v s i) := by
            rw [eO_get hit]
            have q2 := a3 i hit
            rw [Nat.zero_add] at q2
            unfold kI
            rw [hF2 25 i (by omega) (by omega)]
            exact q2
          have hn := (numL_len (x := eO v s i)).2
          have h15 := eO_lt (v := v) (s := s) h16 i
          obtain ⟨κ3, b1, b2, b3⟩ := wr_n (x := eO v s i) hi hp2.1 hT2 (by simp only [List.length_append]; omega) (by omega)
          obtain ⟨κ', c1, c2, c3⟩ := ih (i + 1) f κ3 ((L ++ S) ++ numL (eO v s i)) (by omega) (by omega) (hp2.ft b3) (hF2.trans b3) b2 (by simp only [List.length_append]; omega)
          have eL : (L ++ S) ++ numL (eO v s i) ++ txP (eO v s) (i + 1) k = L ++ txP (eO v s) i (k + 1) := by
            rw [show txP (eO v s) i (k + 1) = (if i = 0 then [] else [44]) ++ (numL (eO v s i) ++ txP (eO v s) (i + 1) k) from rfl, ← hS]
            simp only [List.append_assoc]
          rw [eL] at c1 c2
          rw [hv, b1, bd_s]
          exact ⟨κ', c1, c2, c3⟩
        rw [P_X7_renderOrder_43, if_neg (fun h => by have := (oN_le (by omega) (by omega)).mp h; omega)]
        by_cases z : i = 0
        · subst z
          rw [if_pos (by decide), ck_t (jin_N (by omega) (by omega)), p9 κ1 hp, oN_ix (by omega), e1]
          exact step κ1 [] (by simp) hp hF (by rw [List.append_nil]; exact hT) rfl
        · rw [if_neg (show ¬ oN i ≤ 0 from fun q => by have := (oN_le (b := 0) (by omega) (by omega)).mp q; omega)]
          obtain ⟨κ2, d1, d2, d3⟩ := wr_c (c := 44) hi hp.1 hT (by omega)
          rw [show (44 : Int32) = oN 44 from rfl, d1, bd_s, ck_t (jin_N (by omega) (by omega)), p9 κ2 (hp.ft d3), oN_ix (by omega), e1]
          exact step κ2 [44] (by simp) (hp.ft d3) (hF.trans d3) d2 (by rw [if_neg z])
    obtain ⟨κ', q1, q2, q3⟩ := W (ordS v s).length 0 4000 _ [] (by omega) (by omega) (hps.ft F0) F0 T0 (by simp only [List.length_nil]; omega)
    rw [List.nil_append] at q1 q2
    have q1' : P_X7_renderOrder_43 (ad 20) (oN (ordS v s).length) 4000 (kU κs (ad 20) 19 (.int 0)) 0 = some (oN (txP (eO v s) 0 (ordS v s).length).length, κ') := q1
    rw [bd_s, if_pos (Int32.not_lt.mp (oN_nneg (n := s) (by omega))), bnd_e, h2, if_pos rfl, hf2, bd_s, a1, bd2_s, bnd_e, q1']
    refine ⟨κ', rfl, q2, ?_, fun n j n1 n2 n3 n4 => ?_⟩
    · unfold iS kI
      rw [q3 20 0 (by omega) (by omega), a2 20 0 (fun g => by omega)]
      exact h2
    · rw [q3 n j n3 (by omega), a2 n j (fun g => by omega)]
      unfold kU
      rw [if_neg (fun g => n4 ⟨hi _ _ g.1, Or.inl g.2⟩)]
theorem l_renderOrder (hi : ∀ a b, ad a = ad b → a = b) (hI : INV ad κ K) (x : Int32) : LSt ad K (P_L_renderOrder κ (ad 0) x (ad 40)) (fun κ1 => P_X7_renderOrder κ1 (ad 20) x) := by
  obtain ⟨⟨v, ch, ps, hs, sv, h1, h2, h3⟩, -, hT, -⟩ := id hI
  obtain ⟨pr, tr, pa, su, hp, -⟩ := h1.see h2 h3
  have hc := c_renderO hi hp x
  cases hf : fd v x with
  | none =>
    rw [hf] at hc
    have hm := m_renderO hi hp x
    rw [hf] at hm
    obtain ⟨κ2, a1, a2, a3⟩ := hm
    refine ⟨1, κ, 0, κ2, ?_, a1, a2, fun q => absurd q (by decide), hI.zf a3.two⟩
    unfold P_L_renderOrder
    rw [hc, bdx2_e, if_pos rfl]
  | some s =>
    rw [hf] at hc
    obtain ⟨κa, b1, b2, b3⟩ := hc
    obtain ⟨hs', -⟩ := fd_some hf
    have hG := hp.2.2.2.1.1
    have h16 := (hG.sl16 hs').1
    have hlen := ordS_l16 (v := v) (s := s) h16
    have z1 : ZF2 ad κa (kU κa (ad 40) 0 (.long (oN (txP (eO v s) 0 (ordS v s).length).length).toInt64)) := ZF2.U hi (Or.inl rfl)
    have hpa : PS ad κa pr tr pa su v K := by
      obtain ⟨g1, g2, g3, g4, g5⟩ := hp
      exact ⟨b3.pt g1, g2, RRel_k g3 (fun i h6 => g1.s6 g2 h6) g4.1 (fun n j n1 n2 => b3 n j (fun g => by unfold bR at n1; omega)), g4, fun j => by rw [b3.i (by omega)]; exact g5 j⟩
    have hm := m_renderO hi (hpa.zf2 z1) x
    rw [hf] at hm
    obtain ⟨κ2, a1, a2, a3, a4⟩ := hm
    have ee : ∀ n j, ¬ (n = 3 ∨ n = 12 ∨ n = 40 ∨ n = 25 ∨ n = 26 ∨ n = 28 ∨ (n = 20 ∧ (j = 0 ∨ j = 19))) → κ2 (ad n) j = κ (ad n) j := fun n j hn => by
      rw [a4 n j (by omega) (by omega) (by omega) (by omega)]
      unfold kU
      rw [if_neg (fun g => by have := hi _ _ g.1; omega)]
      exact b3 n j (fun g => by omega)
    have hb := txP_b (e := eO v s) (eO_lt h16) (ordS v s).length 0
    refine ⟨0, _, oN (txP (eO v s) 0 (ordS v s).length).length, κ2, ?_, a1, a3, fun _ => ?_, hI.out (fun n j hn => ee n j (by unfold Of Zf at hn; omega)) (hT.k2 (fun n j hn => ee n j (by omega))) ⟨_, ?_, ?_, ?_, a2⟩⟩
    · unfold P_L_renderOrder
      rw [b1, bdx2_o]; rfl
    · unfold kL; rw [a4 40 0 (by omega) (by omega) (by omega) (by omega)]; exact kL_U hi _ _
    · have := hb.1; omega
    · exact hb.2
    · refine b2.k (fun j => ?_)
      unfold iS kI
      rw [a4 12 j (by omega) (by omega) (by omega) (by omega)]
      unfold kU
      rw [if_neg (fun g => by have := hi _ _ g.1; omega)]
end REND
