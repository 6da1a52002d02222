/-! ===== text builders: the pure methods; their contracts ===== -/
def P_J4_setLength_d00df (κ : jKt) (a0 : Nat) (x1 : Int32) : Option jKt := ck (x1 = 0) <| some (kU κ a0 0 (.int 0))
def P_J4_length_8abf5 (κ : jKt) (a0 : Nat) : Option Int32 := some (kI κ a0 0)
def P_J4_charAt_5068e (κ : jKt) (a0 : Nat) (x1 : Int32) : Option Int32 := ck (0 ≤ x1) <| ck (x1 < kI κ a0 0) <| some (kI κ a0 (ix x1 + 1))
def P_J4_append_cf468 (κ : jKt) (a0 : Nat) (x1 : Int32) : Option (Nat × jKt) :=
  ck (0 ≤ x1 ∧ x1 < 256) <| ck (0 ≤ kI κ a0 0 ∧ kI κ a0 0 < 142) <|
  some (a0, kU (kU κ a0 (ix (kI κ a0 0) + 1) (.int x1)) a0 0 (.int (kI κ a0 0 + 1)))
def P_J4_append_bf812 (κ : jKt) (a0 : Nat) (x1 : Int32) : Option (Nat × jKt) :=
  ck (0 ≤ x1 ∧ x1 < 100) <| ck (0 ≤ kI κ a0 0 ∧ kI κ a0 0 < 141) <|
  if x1 < 10 then some (a0, kU (kU κ a0 (ix (kI κ a0 0) + 1) (.int (x1 + 48))) a0 0 (.int (kI κ a0 0 + 1)))
  else some (a0, kU (kU (kU κ a0 (ix (kI κ a0 0) + 1) (.int (x1 / 10 + 48))) a0 (ix (kI κ a0 0) + 2) (.int (irem x1 10 + 48))) a0 0 (.int (kI κ a0 0 + 2)))
theorem SBk.refl {G : jG} {sh : jSh} {κ : jKt} {a q : Nat} : SBk G sh κ sh κ a q q := ⟨fun _ _ _ => ⟨rfl, fun _ => rfl⟩, Or.inl rfl⟩
theorem dg_i : ∀ x, x < 100 → oN x / 10 + 48 = oN (48 + x / 10) ∧ irem (oN x) 10 + 48 = oN (48 + x % 10) ∧ (10 ≤ x ∨ (oN x + 48 = oN (48 + x % 10))) := by decide +kernel
theorem kI_o {κ : jKt} {a j : Nat} {x : Int32} (h : κ a j = .int x) : kI κ a j = x := by unfold kI; rw [h]
section SBTOP
variable {l : Launch} {G : jG} {sh : jSh} {κ : jKt} {a0 : Nat}
theorem c_J4_length_8abf5 (ha0 : sh a0 = (6, 0, 0)) {r : Int32} (h : P_J4_length_8abf5 κ a0 = some r) : jM l G yJ4_length_8abf5 cJ4_length_8abf5 1 (some .int) 8 0 0 300 [.ref a0] (sh, κ) (jIs (some (.int r)) (sh, κ)) jNo := by
  refine r_body2 (by decide +kernel) (Nat.le_of_ble_eq_true rfl) fun F C hl hG hs ho => ?_
  subst hs
  show jW F _ 0 0 κ 0 [(0, .ref a0)] []
  refine r_open ha0 fun q L n g bs hO => ?_
  obtain ⟨o1, o2, o3, o4, o5, o6, o7, o8, o9, o10⟩ := id hO
  have eS := (jSet_S F (opS (jSof F) a0 q L)).1
  have er : r = oN n := by
    unfold P_J4_length_8abf5 at h
    injection h with h
    rw [← h]; exact kI_o o4
  subst er
  have C1 := jB_set C (opS (jSof F) a0 q L)
  have ta : jSof (jSet F (opS (jSof F) a0 q L)) a0 = (1, 1, 4) := by rw [eS]; exact o5.1
  refine r_aload_n C1.1 0 1 rfl dJ4_length_8abf5_0 rfl ?_
  refine r_callSU (F := jSet F (opS (jSof F) a0 q L)) C1.1 (st := []) (c5_length (a0 := a0) ta o5.2.2.2.2.1) yw_ln ml4_ln ta rfl ⟨(Nat.le_of_ble_eq_true rfl), (Nat.le_of_ble_eq_true rfl)⟩ ⟨(Nat.le_of_ble_eq_true rfl), (Nat.le_of_ble_eq_true rfl)⟩ (Nat.le_of_ble_eq_true rfl) rfl 4 rfl dJ4_length_8abf5_1 (fun r1 σ1 h1 => ?_)
  obtain ⟨rfl, rfl⟩ := h1
  rw [jSet_set]
  show jW (jSet F (jSof (jSet F (opS (jSof F) a0 q L)))) 1 0 0 (opK κ a0 q g bs) 4 [(0, .ref a0)] [.int (oN n)]
  rw [eS]
  refine r_close (κr := κ) ha0 hO o5 SBk.refl (fun _ _ _ => rfl) o4 (fun j hj => ?_) ?_
  · rw [opK_q κ g bs o1]; exact o7 j hj
  · refine r_zret C rfl rfl (Nat.le_of_ble_eq_true rfl) (Nat.le_of_ble_eq_true rfl) dJ4_length_8abf5_4 ?_
    rw [jOut_q, ho]; exact ⟨rfl, rfl⟩
theorem c_J4_charAt_5068e (ha0 : sh a0 = (6, 0, 0)) {x1 : Int32} {r : Int32} (h : P_J4_charAt_5068e κ a0 x1 = some r) : jM l G yJ4_charAt_5068e cJ4_charAt_5068e 2 (some .char) 8 0 0 300 [.ref a0, .int x1] (sh, κ) (jIs (some (.int r)) (sh, κ)) jNo := by
  refine r_body2 (by decide +kernel) (Nat.le_of_ble_eq_true rfl) fun F C hl hG hs ho => ?_
  subst hs
  unfold P_J4_charAt_5068e at h
  obtain ⟨h1, h⟩ := ck_some h
  obtain ⟨h2, h⟩ := ck_some h
  injection h with h
  obtain ⟨i, i1, rfl⟩ := oN_of h1
  show jW F _ 0 0 κ 0 [(0, .ref a0), (1, .int (oN i))] []
  refine r_open ha0 fun q L n g bs hO => ?_
  obtain ⟨o1, o2, o3, o4, o5, o6, o7, o8, o9, o10⟩ := id hO
  have hn142 : n ≤ L ∧ L ≤ 142 := ⟨o5.2.2.2.2.2.1, by have := o5.2.2.2.2.2.2.2; omega⟩
  rw [kI_o o4] at h2
  have hin : i < n := (oN_lt i1 (by omega)).mp h2
  rw [oN_ix i1] at h
  obtain ⟨x, x1, x2, x3, x4⟩ := o7 i hin
  obtain ⟨c, c1, rfl⟩ := oN_of x2
  have hc : c < 256 := (oN_lt (b := 256) c1 (by omega)).mp x3
  have er : r = oN c := by rw [← h]; exact kI_o x1
  subst er
  have eS := (jSet_S F (opS (jSof F) a0 q L)).1
  have C1 := jB_set C (opS (jSof F) a0 q L)
  have ta : jSof (jSet F (opS (jSof F) a0 q L)) a0 = (1, 1, 4) := by rw [eS]; exact o5.1
  have o5' : SBs (jSof (jSet F (opS (jSof F) a0 q L))) (opK κ a0 q g bs) a0 q L n := by rw [eS]; exact o5
  refine r_aload_n C1.1 0 1 rfl dJ4_charAt_5068e_0 rfl ?_
  refine r_iload_n C1.1 1 2 rfl dJ4_charAt_5068e_1 rfl ?_
  refine r_callSU (F := jSet F (opS (jSof F) a0 q L)) C1.1 (st := []) (c5_charAt (c := c) o5' hin hc (by rw [opK_q κ g bs o1]; exact x4)) yw_ca ml4_ca ta rfl ⟨(Nat.le_of_ble_eq_true rfl), (Nat.le_of_ble_eq_true rfl)⟩ ⟨(Nat.le_of_ble_eq_true rfl), (Nat.le_of_ble_eq_true rfl)⟩ (Nat.le_of_ble_eq_true rfl) rfl 5 rfl dJ4_charAt_5068e_2 (fun r1 σ1 h1 => ?_)
  obtain ⟨rfl, rfl⟩ := h1
  rw [jSet_set]
  show jW (jSet F (jSof (jSet F (opS (jSof F) a0 q L)))) 2 0 0 (opK κ a0 q g bs) 5 [(0, .ref a0), (1, .int (oN i))] [.int (oN c)]
  rw [eS]
  refine r_close (κr := κ) ha0 hO o5 SBk.refl (fun _ _ _ => rfl) o4 (fun j hj => ?_) ?_
  · rw [opK_q κ g bs o1]; exact o7 j hj
  · refine r_zret C rfl (by_ch c hc).2 (Nat.le_of_ble_eq_true rfl) (Nat.le_of_ble_eq_true rfl) dJ4_charAt_5068e_5 ?_
    rw [jOut_q, ho]; exact ⟨rfl, rfl⟩
theorem c_J4_setLength_d00df (ha0 : sh a0 = (6, 0, 0)) {x1 : Int32} {κr : jKt} (h : P_J4_setLength_d00df κ a0 x1 = some κr) : jM l G yJ4_setLength_d00df cJ4_setLength_d00df 2 none 8 0 0 300 [.ref a0, .int x1] (sh, κ) (jIs none (sh, κr)) jNo := by
  refine r_body2 (by decide +kernel) (Nat.le_of_ble_eq_true rfl) fun F C hl hG hs ho => ?_
  subst hs
  unfold P_J4_setLength_d00df at h
  obtain ⟨rfl, h⟩ := ck_some h
  injection h with h
  subst h
  show jW F _ 0 0 κ 0 [(0, .ref a0), (1, .int 0)] []
  refine r_open ha0 fun q L n g bs hO => ?_
  obtain ⟨o1, o2, o3, o4, o5, o6, o7, o8, o9, o10⟩ := id hO
  have eS := (jSet_S F (opS (jSof F) a0 q L)).1
  have C1 := jB_set C (opS (jSof F) a0 q L)
  have ta : jSof (jSet F (opS (jSof F) a0 q L)) a0 = (1, 1, 4) := by rw [eS]; exact o5.1
  have o5' : SBs (jSof (jSet F (opS (jSof F) a0 q L))) (opK κ a0 q g bs) a0 q L n := by rw [eS]; exact o5
  refine r_aload_n C1.1 0 1 rfl dJ4_setLength_d00df_0 rfl ?_
  refine r_iload_n C1.1 1 2 rfl dJ4_setLength_d00df_1 rfl ?_
  refine r_callSU (F := jSet F (opS (jSof F) a0 q L)) C1.1 (st := []) (c5_setLength o5') yw_sl ml4_sl ta rfl ⟨(Nat.le_of_ble_eq_true rfl), (Nat.le_of_ble_eq_true rfl)⟩ ⟨(Nat.le_of_ble_eq_true rfl), (Nat.le_of_ble_eq_true rfl)⟩ (Nat.le_of_ble_eq_true rfl) rfl 5 rfl dJ4_setLength_d00df_2 (fun r1 σ1 h1 => ?_)
  obtain ⟨rfl, rfl⟩ := h1
  rw [jSet_set]
  generalize hκ2 : kU (if 0 < n then kU (opK κ a0 q g bs) a0 2 (.int 1) else opK κ a0 q g bs) a0 3 (.int 0) = κ2
  show jW (jSet F (jSof (jSet F (opS (jSof F) a0 q L)))) 2 0 0 κ2 5 [(0, .ref a0), (1, .int 0)] []
  rw [eS]
  obtain ⟨s1, s2, s3, s4, s5, s6, s7, s8⟩ := id o5
  have k2 : ∀ b k, ¬ (b = a0 ∧ (k = 2 ∨ k = 3)) → κ2 b k = opK κ a0 q g bs b k := fun b k hb => by
    rw [← hκ2]
    unfold kU
    rw [if_neg (fun z => hb ⟨z.1, Or.inr z.2⟩)]
    split
    · exact if_neg (fun z => hb ⟨z.1, Or.inl z.2⟩)
    · rfl
  refine r_close (n' := 0) (κr := kU κ a0 0 (.int 0)) ha0 hO ⟨s1, (k2 a0 0 (by omega)).trans s2, s3, ?_, ?_, Nat.zero_le _, fun i hi => by rw [k2 q i (fun z => o1 z.1)]; exact s7 i hi, s8⟩ ⟨fun b b1 b2 => ⟨rfl, fun k => k2 b k (fun z => b1 z.1)⟩, Or.inl rfl⟩ (fun b hb k => by unfold kU; rw [if_neg (fun z => hb z.1)]) (by unfold kU; rw [if_pos ⟨rfl, rfl⟩]; rfl) (fun j hj => absurd hj (Nat.not_lt_zero _)) ?_
  · unfold kI at *; rw [k2 a0 1 (by omega)]; exact s4
  · rw [← hκ2, kI_U, if_pos ⟨rfl, rfl⟩]; rfl
  · refine r_vret C rfl (Nat.le_of_ble_eq_true rfl) (Nat.le_of_ble_eq_true rfl) dJ4_setLength_d00df_5 ?_
    rw [jOut_q, ho]; exact ⟨rfl, rfl⟩
theorem c_J4_append_cf468 (ha0 : sh a0 = (6, 0, 0)) {x1 : Int32} {r : Nat} {κr : jKt} (h : P_J4_append_cf468 κ a0 x1 = some (r, κr)) : jM l G yJ4_append_cf468 cJ4_append_cf468 2 (some (.object "java/lang/StringBuilder")) 8 1 142 300 [.ref a0, .int x1] (sh, κ) (jIsT r (6, 0, 0) sh κr) jNo := by
  refine r_body2 (by decide +kernel) (Nat.le_of_ble_eq_true rfl) fun F C hl hG hs ho => ?_
  subst hs
  unfold P_J4_append_cf468 at h
  obtain ⟨⟨h1, h2⟩, h⟩ := ck_some h
  obtain ⟨⟨h3, h4⟩, h⟩ := ck_some h
  injection h with h
  injection h with e1 e2
  obtain ⟨c, c1, rfl⟩ := oN_of h1
  have hc : c < 256 := (oN_lt (b := 256) c1 (by omega)).mp h2
  subst e1
  show jW F _ 0 0 κ 0 [(0, .ref a0), (1, .int (oN c))] []
  refine r_open ha0 fun q L n g bs hO => ?_
  obtain ⟨o1, o2, o3, o4, o5, o6, o7, o8, o9, o10⟩ := id hO
  have hn142 : n ≤ L ∧ L ≤ 142 := ⟨o5.2.2.2.2.2.1, by have := o5.2.2.2.2.2.2.2; omega⟩
  have e0 : kI κ a0 0 = oN n := kI_o o4
  rw [e0] at h4
  have hn : n < 142 := (oN_lt (b := 142) (by omega) (by omega)).mp h4
  rw [e0, oN_ix (by omega), show (oN n + 1 : Int32) = oN (n + 1) from oN_add n 1] at e2
  have eS := (jSet_S F (opS (jSof F) a0 q L)).1
  have C1 := jB_set C (opS (jSof F) a0 q L)
  have ta : jSof (jSet F (opS (jSof F) a0 q L)) a0 = (1, 1, 4) := by rw [eS]; exact o5.1
  have o5' : SBs (jSof (jSet F (opS (jSof F) a0 q L))) (opK κ a0 q g bs) a0 q L n := by rw [eS]; exact o5
  refine r_aload_n C1.1 0 1 rfl dJ4_append_cf468_0 rfl ?_
  refine r_iload_n C1.1 1 2 rfl dJ4_append_cf468_1 rfl ?_
  refine r_callSU (F := jSet F (opS (jSof F) a0 q L)) C1.1 (st := []) (c5_appendC (c := c) o5' hn hc) yw_ac ml4_ac ta rfl ⟨(Nat.le_of_ble_eq_true rfl), (Nat.le_of_ble_eq_true rfl)⟩ ⟨(Nat.le_of_ble_eq_true rfl), (Nat.le_of_ble_eq_true rfl)⟩ (Nat.le_of_ble_eq_true rfl) rfl 5 rfl dJ4_append_cf468_2 (fun r1 σ1 h1 => ?_)
  obtain ⟨sh2, κ2⟩ := σ1
  obtain ⟨rfl, q2, L2, s1, s2, s3, s4⟩ := h1
  rw [jSet_set]
  show jW (jSet F sh2) 2 1 142 κ2 5 [(0, .ref a0), (1, .int (oN c))] [.ref a0]
  have C2 := jB_set C sh2
  refine r_pop C2.1 rfl 6 rfl dJ4_append_cf468_5 ?_
  rw [eS, (jSet_S F (opS (jSof F) a0 q L)).2.1] at s4
  have kr : ∀ k, κr a0 k = if k = 0 then .int (oN (n + 1)) else if k = n + 1 then .int (oN c) else κ a0 k := fun k => by
    rw [← e2]
    unfold kU
    by_cases z : k = 0
    · rw [if_pos ⟨rfl, z⟩, if_pos z]
    · rw [if_neg (fun y => z y.2), if_neg z]
      by_cases y : k = n + 1
      · rw [if_pos ⟨rfl, y⟩, if_pos y]
      · rw [if_neg (fun w => y w.2), if_neg y]
  refine r_close (κr := κr) ha0 hO s1 s4 (fun b hb k => by rw [← e2]; unfold kU; rw [if_neg (fun z => hb z.1), if_neg (fun z => hb z.1)]) (by rw [kr, if_pos rfl]) (fun j hj => ?_) ?_
  · rw [kr, if_neg (by omega)]
    by_cases z : j = n
    · subst z
      rw [if_pos rfl]
      exact ⟨oN c, rfl, Int32.not_lt.mp (oN_nneg (by omega)), h2, s3⟩
    · rw [if_neg (by omega)]
      obtain ⟨x, x1, x2, x3, x4⟩ := o7 j (by omega)
      refine ⟨x, x1, x2, x3, ?_⟩
      have := s2 j (by omega)
      rw [opK_q κ g bs o1] at this
      exact this.trans x4
  · refine r_aload_n C.1 0 7 rfl dJ4_append_cf468_6 rfl ?_
    refine r_aret C rfl (Or.inl ⟨_, rfl⟩) (Or.inr ⟨_, rfl⟩) (Nat.le_of_ble_eq_true rfl) (Nat.le_of_ble_eq_true rfl) dJ4_append_cf468_7 ?_
    rw [jOut_q, ho]; exact ⟨rfl, rfl, ha0⟩
theorem c_J4_append_bf812 (ha0 : sh a0 = (6, 0, 0)) {x1 : Int32} {r : Nat} {κr : jKt} (h : P_J4_append_bf812 κ a0 x1 = some (r, κr)) : jM l G yJ4_append_bf812 cJ4_append_bf812 2 (some (.object "java/lang/StringBuilder")) 8 1 142 300 [.ref a0, .int x1] (sh, κ) (jIsT r (6, 0, 0) sh κr) jNo := by
  refine r_body2 (by decide +kernel) (Nat.le_of_ble_eq_true rfl) fun F C hl hG hs ho => ?_
  subst hs
  unfold P_J4_append_bf812 at h
  obtain ⟨⟨h1, h2⟩, h⟩ := ck_some h
  obtain ⟨⟨h3, h4⟩, h⟩ := ck_some h
  obtain ⟨x, c1, rfl⟩ := oN_of h1
  have hx : x < 100 := (oN_lt (b := 100) c1 (by omega)).mp h2
  have hz : (oN x < 10) ↔ x < 10 := oN_lt (b := 10) c1 (by omega)
  obtain ⟨d1, d2, d3⟩ := dg_i x hx
  have g1 := by_dg (x % 10) (by omega)
  have g2 := by_dg (x / 10) (by omega)
  show jW F _ 0 0 κ 0 [(0, .ref a0), (1, .int (oN x))] []
  refine r_open ha0 fun q L n g bs hO => ?_
  obtain ⟨o1, o2, o3, o4, o5, o6, o7, o8, o9, o10⟩ := id hO
  have hn142 : n ≤ L ∧ L ≤ 142 := ⟨o5.2.2.2.2.2.1, by have := o5.2.2.2.2.2.2.2; omega⟩
  have e0 : kI κ a0 0 = oN n := kI_o o4
  rw [e0] at h4
  have hn : n < 141 := (oN_lt (b := 141) (by omega) (by omega)).mp h4
  have er : r = a0 ∧ κr = if x < 10 then kU (kU κ a0 (n + 1) (.int (oN (48 + x % 10)))) a0 0 (.int (oN (n + 1))) else kU (kU (kU κ a0 (n + 1) (.int (oN (48 + x / 10)))) a0 (n + 2) (.int (oN (48 + x % 10)))) a0 0 (.int (oN (n + 2))) := by
    rw [e0, oN_ix (by omega), show (oN n + 1 : Int32) = oN (n + 1) from oN_add n 1, show (oN n + 2 : Int32) = oN (n + 2) from oN_add n 2] at h
    by_cases z : x < 10
    · rw [if_pos (hz.mpr z)] at h
      rw [if_pos z]
      injection h with h
      injection h with e1 e2
      refine ⟨e1.symm, ?_⟩
      rw [← e2]
      rcases d3 with d3 | d3
      · omega
      · rw [d3]
    · rw [if_neg (fun y => z (hz.mp y)), d1, d2] at h
      rw [if_neg z]
      injection h with h
      injection h with e1 e2
      exact ⟨e1.symm, e2.symm⟩
  obtain ⟨rfl, e2⟩ := er
  have eS := (jSet_S F (opS (jSof F) r q L)).1
  have C1 := jB_set C (opS (jSof F) r q L)
  have ta : jSof (jSet F (opS (jSof F) r q L)) r = (1, 1, 4) := by rw [eS]; exact o5.1
  have o5' : SBs (jSof (jSet F (opS (jSof F) r q L))) (opK κ r q g bs) r q L n := by rw [eS]; exact o5
  refine r_aload_n C1.1 0 1 rfl dJ4_append_bf812_0 rfl ?_
  refine r_iload_n C1.1 1 2 rfl dJ4_append_bf812_1 rfl ?_
  refine r_callSU (F := jSet F (opS (jSof F) r q L)) C1.1 (st := []) (c5_appendI (x := x) (d := if x < 10 then 1 else 2) o5' hx rfl (by omega)) yw_ai ml4_ai ta rfl ⟨(Nat.le_of_ble_eq_true rfl), (Nat.le_of_ble_eq_true rfl)⟩ ⟨(Nat.le_of_ble_eq_true rfl), (Nat.le_of_ble_eq_true rfl)⟩ (Nat.le_of_ble_eq_true rfl) rfl 5 rfl dJ4_append_bf812_2 (fun r1 σ1 h1 => ?_)
  obtain ⟨sh2, κ2⟩ := σ1
  obtain ⟨rfl, q2, L2, s1, s2, s3, s4⟩ := h1
  rw [jSet_set]
  show jW (jSet F sh2) 2 1 142 κ2 5 [(0, .ref r), (1, .int (oN x))] [.ref r]
  have C2 := jB_set C sh2
  refine r_pop C2.1 rfl 6 rfl dJ4_append_bf812_5 ?_
  rw [eS, (jSet_S F (opS (jSof F) r q L)).2.1] at s4
  have kb : ∀ b, b ≠ r → ∀ k, κr b k = κ b k := fun b hb k => by
    rw [e2]
    split
    · unfold kU; rw [if_neg (fun z => hb z.1), if_neg (fun z => hb z.1)]
    · unfold kU; rw [if_neg (fun z => hb z.1), if_neg (fun z => hb z.1), if_neg (fun z => hb z.1)]
  have old : ∀ j, j < n → κr r (j + 1) = κ r (j + 1) := fun j hj => by
    rw [e2]
    split
    · unfold kU; rw [if_neg (fun z => by omega), if_neg (fun z => by omega)]
    · unfold kU; rw [if_neg (fun z => by omega), if_neg (fun z => by omega), if_neg (fun z => by omega)]
  have len : κr r 0 = .int (oN (n + if x < 10 then 1 else 2)) := by
    rw [e2]
    by_cases z : x < 10
    · rw [if_pos z, if_pos z]; unfold kU; rw [if_pos ⟨rfl, rfl⟩]
    · rw [if_neg z, if_neg z]; unfold kU; rw [if_pos ⟨rfl, rfl⟩]
  have dgs : ∀ y, y < 10 → 0 ≤ oN (48 + y) ∧ oN (48 + y) < 256 := fun y hy => ⟨Int32.not_lt.mp (oN_nneg (by omega)), (oN_lt (b := 256) (by omega) (by omega)).mpr (by omega)⟩
  refine r_close (κr := κr) ha0 hO s1 s4 kb len (fun j hj => ?_) ?_
  · by_cases w : j < n
    · rw [old j w]
      obtain ⟨y, x1, x2, x3, x4⟩ := o7 j w
      refine ⟨y, x1, x2, x3, ?_⟩
      have := s2 j w
      rw [opK_q κ g bs o1] at this
      exact this.trans x4
    · by_cases z : x < 10
      · rw [if_pos z] at hj s3 e2
        have ej : j = n := by omega
        subst ej
        refine ⟨oN (48 + x % 10), ?_, (dgs _ (by omega)).1, (dgs _ (by omega)).2, s3.trans g1.1.symm⟩
        rw [e2]; unfold kU; rw [if_neg (fun y => by omega), if_pos ⟨rfl, rfl⟩]
      · rw [if_neg z] at hj s3 e2
        by_cases ej : j = n
        · subst ej
          refine ⟨oN (48 + x / 10), ?_, (dgs _ (by omega)).1, (dgs _ (by omega)).2, s3.1.trans g2.1.symm⟩
          rw [e2]; unfold kU; rw [if_neg (fun y => by omega), if_neg (fun y => by omega), if_pos ⟨rfl, rfl⟩]
        · have ej2 : j = n + 1 := by omega
          subst ej2
          refine ⟨oN (48 + x % 10), ?_, (dgs _ (by omega)).1, (dgs _ (by omega)).2, s3.2.trans g1.1.symm⟩
          rw [e2]; unfold kU; rw [if_neg (fun y => by omega), if_pos ⟨rfl, rfl⟩]
  · refine r_aload_n C.1 0 7 rfl dJ4_append_bf812_6 rfl ?_
    refine r_aret C rfl (Or.inl ⟨_, rfl⟩) (Or.inr ⟨_, rfl⟩) (Nat.le_of_ble_eq_true rfl) (Nat.le_of_ble_eq_true rfl) dJ4_append_bf812_7 ?_
    rw [jOut_q, ho]; exact ⟨rfl, rfl, ha0⟩
end SBTOP
