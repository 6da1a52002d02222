/-! ===== the law's entry: the workshop, the model, the two rows for answers ===== -/
theorem v_astore_n {F : jFm} {own : String} {cc : ByteArray} {nL k1 k2 fr mc ms lo pc : Nat} {σ : jH} {lv : List (Nat × Value)} {st : List Value} (C : jA F own cc nL fr mc ms lo) {lv' : List (Nat × Value)} {i : Fin 4} {x : Nat} (ks : List Nat) (p1 : Nat) (hp : pc + 1 = p1) (hd : decode cc pc = .ok (.astore_n i, 1)) (hn : (i : Nat) < nL) (hk : lv_pick (((i : Nat), Value.ref x) :: lv.filter (fun q => !(q.1 == (i : Nat)) && !(q.1 + 1 == (i : Nat) && q.2.category == 2))) ks = lv') (kk : jV F nL k1 k2 σ p1 lv' st) : jV F nL k1 k2 σ pc lv (.ref x :: st) := r_astore_n (jA_set C σ.1) ks p1 hp hd hn hk kk
theorem v_astore {F : jFm} {own : String} {cc : ByteArray} {nL k1 k2 fr mc ms lo pc : Nat} {σ : jH} {lv : List (Nat × Value)} {st : List Value} (C : jA F own cc nL fr mc ms lo) {lv' : List (Nat × Value)} {i : Nat} {x : Nat} (ks : List Nat) (p1 : Nat) (hp : pc + 2 = p1) (hd : decode cc pc = .ok (.astore i, 2)) (hn : i < nL) (hk : lv_pick ((i, Value.ref x) :: lv.filter (fun q => !(q.1 == i) && !(q.1 + 1 == i && q.2.category == 2))) ks = lv') (kk : jV F nL k1 k2 σ p1 lv' st) : jV F nL k1 k2 σ pc lv (.ref x :: st) := r_astore (jA_set C σ.1) ks p1 hp hd hn hk kk
theorem v_istore {F : jFm} {own : String} {cc : ByteArray} {nL k1 k2 fr mc ms lo pc : Nat} {σ : jH} {lv : List (Nat × Value)} {st : List Value} (C : jA F own cc nL fr mc ms lo) {lv' : List (Nat × Value)} {i : Nat} {x : Int32} (ks : List Nat) (p1 : Nat) (hp : pc + 2 = p1) (hd : decode cc pc = .ok (.istore i, 2)) (hn : i < nL) (hk : lv_pick ((i, Value.int x) :: lv.filter (fun q => !(q.1 == i) && !(q.1 + 1 == i && q.2.category == 2))) ks = lv') (kk : jV F nL k1 k2 σ p1 lv' st) : jV F nL k1 k2 σ pc lv (.int x :: st) := r_istore (jA_set C σ.1) ks p1 hp hd hn hk kk
def xT : Nat → Nat × Nat × Nat := updS (updS xS 115 (2, 7, 8)) 0 (1, 10, 11)
def yT (j : Nat) : Nat × Nat × Nat := if j < 431 then xT j else if j < 443 then s_X7 (j - 431) else if j = 443 then (2, 3, 1) else (2, 4, 1)
theorem yT_a {t : Nat} (h : t < 431) : yT (0 + t) = xT t := by
  unfold yT
  rw [Nat.zero_add, if_pos h]
theorem yT_b {t : Nat} (h : t < 12) : yT (431 + t) = s_X7 t := by
  unfold yT
  rw [if_neg (by omega), if_pos (by omega), show 431 + t - 431 = t from by omega]
theorem Blk.ycat {G : jG} {σ σ1 σ2 : jH} {n m : Nat} {f g : Nat → Nat} {V W : Nat → Nat → Value} {S' : Nat → Nat × Nat × Nat} (h : Blk G σ σ1 n f yT V) {a : Nat} {e : Nat × Nat × Nat} {d : Nat → Value} (ha : jFree G σ1 a) (hg : g 0 = a) (hm : 0 < m) (k : Blk G (jMade σ1 a e d) σ2 m g S' W) (hS : ∀ t, t < m → yT (n + t) = S' t) {n' : Nat} (hn : n + m = n') : ∃ f2 V2, Blk G σ σ2 n' f2 yT V2 ∧ (∀ j, j < n → f2 j = f j) ∧ (∀ j, j < n → ∀ k, V2 j k = V j k) ∧ (∀ j, f2 (n + j) = g j) ∧ ∀ j k, V2 (n + j) k = W j k := by
  subst hn
  refine ⟨catF n f g, catF n V W, (h.cat ha hg hm k).to (fun _ _ => rfl) (fun j hj => ?_) (fun _ _ _ => rfl), fun j hj => catF_l _ _ hj, fun j hj k => by rw [catF_l _ _ hj], fun j => catF_r _ _ _ j, fun j k => by rw [catF_r]⟩
  by_cases z : j < n
  · rw [catF_l _ _ z]
  · obtain ⟨t, rfl⟩ : ∃ t, j = n + t := ⟨j - n, by omega⟩
    rw [catF_r]
    exact hS t (by omega)
theorem nw_RL_8 : jNw RL 8 10 11 tyX6 := ⟨RX6, TX6, rfl, in_X6, tyX6_ok, (TB_in (by decide +kernel) (by decide +kernel)), (TB_in (by decide +kernel) (by decide +kernel)), (TB_in (by decide +kernel) (by decide +kernel))⟩
theorem nw_RL_166 : jNw RL 166 11 22 tyX7 := ⟨RX7, TX7, rfl, in_X7, tyX7_ok, (TB_in (by decide +kernel) (by decide +kernel)), (TB_in (by decide +kernel) (by decide +kernel)), (TB_in (by decide +kernel) (by decide +kernel))⟩
theorem mi_RL_165 : Cond.methodLink RL 165 yX6_init ∈ TB ∨ ∃ host, Cond.methodLinkNest RL 165 yX6_init host ∈ TB := Or.inl (TB_in (by decide +kernel) (by decide +kernel))
theorem mi_RL_168 : Cond.methodLink RL 168 yX7_init ∈ TB ∨ ∃ host, Cond.methodLinkNest RL 168 yX7_init host ∈ TB := Or.inl (TB_in (by decide +kernel) (by decide +kernel))
theorem yi_X6 : jYI yX6_init cX6_init 2 0 := ⟨(TB_in (by decide +kernel) (by decide +kernel)), rfl, (TB_in (by decide +kernel) (by decide +kernel)), (TB_in (by decide +kernel) (by decide +kernel)), ⟨by decide +kernel, by decide +kernel⟩, by decide +kernel⟩
theorem yi_X7 : jYI yX7_init cX7_init 1 0 := ⟨(TB_in (by decide +kernel) (by decide +kernel)), rfl, (TB_in (by decide +kernel) (by decide +kernel)), (TB_in (by decide +kernel) (by decide +kernel)), ⟨by decide +kernel, by decide +kernel⟩, by decide +kernel⟩
/-- what the model's cells hold -/
def mQ (f : Nat → Nat) (V : Nat → Nat → Value) : Prop := (V 431 2 = .int (-1) ∧ V 431 3 = .int (-1) ∧ V 431 1 = .int 0 ∧ V 431 4 = .int 0 ∧ V 431 16 = .int 0 ∧ V 431 19 = .int 0) ∧ (∀ k, k < 11 → V 431 (5 + k) = .ref (f (432 + k))) ∧ (∀ i k, 1 ≤ i → i < 10 → V (431 + i) k = .int 0) ∧ (∀ k, k < 57 → V 441 k = .int (oN (mWd.getD k 0))) ∧ ∀ k, k < 11 → V 442 k = .int (oN (mWa.getD k 0))
theorem mQ_e {f f' : Nat → Nat} {V V' : Nat → Nat → Value} (h : mQ f V) (hf : ∀ j, j < 443 → f' j = f j) (hV : ∀ j, j < 443 → ∀ k, V' j k = V j k) : mQ f' V' := by
  obtain ⟨⟨a0, a1, a2, a3, a4, a5⟩, b, c, d, e⟩ := h
  exact ⟨⟨(hV _ (by omega) _).trans a0, (hV _ (by omega) _).trans a1, (hV _ (by omega) _).trans a2, (hV _ (by omega) _).trans a3, (hV _ (by omega) _).trans a4, (hV _ (by omega) _).trans a5⟩, fun k hk => (hV _ (by omega) _).trans ((b k hk).trans (congrArg Value.ref (hf _ (by omega)).symm)), fun i k h1 h2 => (hV _ (by omega) _).trans (c i k h1 h2), fun k hk => (hV _ (by omega) _).trans (d k hk), fun k hk => (hV _ (by omega) _).trans (e k hk)⟩
theorem xR_e {f f' : Nat → Nat} {V V' : Nat → Nat → Value} {i : Nat} (hi : i < 8) (h : xR f V i) (hf : ∀ j, j < 431 → f' j = f j) (hV : ∀ j, j < 431 → ∀ k, V' j k = V j k) : xR f' V' i := by
  obtain ⟨h1, h2⟩ := h
  exact ⟨(hV _ (by omega) _).trans (h1.trans (congrArg Value.ref (hf _ (by omega)).symm)), wR_e h2 (fun j hj => hf _ (by omega)) (fun j hj => hV _ (by omega))⟩
theorem law_entry {F : jFm} (C : jA F RL cL_law 9 2048 603072 7182442 94400) {σ : jH} (hz : ∀ b, (σ.1 b).1 = 0) {b : Nat}
    (kk : ∀ (σ' : jH) (f : Nat → Nat) (V : Nat → Nat → Value), Blk (jGof F) σ σ' 445 f yT V → xQ f V → (∀ i, i < 8 → xR f V i) → mQ f V → jV F 9 446 10677 σ' 28 [(0, .ref b), (1, .ref (f 0)), (2, .ref (f 431)), (3, .ref (f 443)), (4, .ref (f 444)), (5, .int 0)] []) : jV F 9 0 0 σ 0 [(0, .ref b)] [] := by
  have hB : Blk (jGof F) σ σ 0 (fun _ => 0) yT (fun _ _ => .null) := ⟨fun i j hi => absurd hi (Nat.not_lt_zero _), fun i _ hi => absurd hi (Nat.not_lt_zero _), fun i hi => absurd hi (Nat.not_lt_zero _), fun b _ => ⟨rfl, fun _ => rfl⟩, fun i hi => absurd hi (Nat.not_lt_zero _)⟩
  refine v_newc C nw_RL_8 ⟨Nat.le_of_ble_eq_true rfl, Nat.le_of_ble_eq_true rfl⟩ 1 11 rfl rfl 3 rfl dL_law_0 fun b1 hn1 => ?_
  refine v_dup C rfl 4 rfl dL_law_3 ?_
  refine v_callI C (st := [.ref b1]) (c_X6_init (jMade_a _ _ _ _).1 (fun q => ?_)) yi_X6 mi_RL_165 rfl ⟨Nat.le_of_ble_eq_true rfl, Nat.le_of_ble_eq_true rfl⟩ ⟨Nat.le_of_ble_eq_true rfl, Nat.le_of_ble_eq_true rfl⟩ (Nat.le_of_ble_eq_true rfl) rfl 432 5386 rfl rfl 7 rfl dL_law_4 (fun r σ1 hr => ?_)
  · by_cases z : q = b1
    · rw [z, (jMade_a _ _ _ _).1]; decide
    · rw [(jMade_n _ _ _ z).1, hz]; decide
  obtain ⟨rfl, g, W, g0, hI, w0, w1⟩ := hr
  obtain ⟨f2, V2, hB, -, -, fr, vr⟩ := hB.ycat hn1 g0 (by decide) hI (fun t ht => yT_a ht) (n' := 431) rfl
  have hq : xQ f2 V2 := xQ_e w0 (fun j hj => by have := fr j; rwa [Nat.zero_add] at this) (fun j hj _ k => by have := vr j k; rwa [Nat.zero_add] at this)
  have hr : ∀ i, i < 8 → xR f2 V2 i := fun i hi => xR_e hi (w1 i hi) (fun j hj => by have := fr j; rwa [Nat.zero_add] at this) (fun j hj k => by have := vr j k; rwa [Nat.zero_add] at this)
  have e1 : f2 0 = b1 := (fr 0).trans g0
  clear w0 w1 hI fr vr g0
  simp only [Option.toList, List.nil_append]
  refine v_astore_n C (lv' := [(0, .ref b), (1, .ref b1)]) [1, 0] 8 rfl dL_law_7 (Nat.le_of_ble_eq_true rfl) rfl ?_
  refine v_newc C nw_RL_166 ⟨Nat.le_of_ble_eq_true rfl, Nat.le_of_ble_eq_true rfl⟩ 433 5408 rfl rfl 11 rfl dL_law_8 fun b2 hn2 => ?_
  refine v_dup C rfl 12 rfl dL_law_11 ?_
  refine v_callI C (st := [.ref b2]) (c_X7_init (jMade_a _ _ _ _).1 (fun k hk hk2 => ?_)) yi_X7 mi_RL_168 rfl ⟨Nat.le_of_ble_eq_true rfl, Nat.le_of_ble_eq_true rfl⟩ ⟨Nat.le_of_ble_eq_true rfl, Nat.le_of_ble_eq_true rfl⟩ (Nat.le_of_ble_eq_true rfl) rfl 444 10675 rfl rfl 15 rfl dL_law_12 (fun r σ2 hr => ?_)
  · rw [(jMade_a _ _ _ _).2]
    have hc : k = 0 ∨ k = 1 ∨ k = 2 ∨ k = 3 ∨ k = 4 ∨ k = 16 ∨ k = 17 ∨ k = 18 ∨ k = 19 ∨ k = 20 ∨ k = 21 := by omega
    rcases hc with z | z | z | z | z | z | z | z | z | z | z <;> subst z <;> exact ⟨0, rfl⟩
  obtain ⟨rfl, h, U, h0, hI, u2, u3, u5, u6, u7, u8, u9, u10, u11, u12, u13, u14, u15, uo, uz, uw, ux⟩ := hr
  have dv : ∀ k, (k = 1 ∨ k = 4 ∨ k = 16 ∨ k = 19) → U 0 k = .int 0 := fun k hk => by
    rw [uo k (by omega), (jMade_a _ _ _ _).2]
    rcases hk with z | z | z | z <;> subst z <;> rfl
  obtain ⟨f3, V3, hB, fl, vl, fr, vr⟩ := hB.ycat hn2 h0 (by decide) hI (fun t ht => yT_b ht) (n' := 443) rfl
  have hq : xQ f3 V3 := xQ_e hq (fun j hj => fl _ (by omega)) (fun j hj _ k => vl _ (by omega) k)
  have hr : ∀ i, i < 8 → xR f3 V3 i := fun i hi => xR_e hi (hr i hi) (fun j hj => fl _ (by omega)) (fun j hj k => vl _ (by omega) k)
  have e1 : f3 0 = b1 := (fl 0 (by omega)).trans e1
  have e2 : f3 431 = b2 := (fr 0).trans h0
  have hm : mQ f3 V3 := by
    refine ⟨⟨(vr 0 2).trans u2, (vr 0 3).trans u3, (vr 0 1).trans (dv 1 (by omega)), (vr 0 4).trans (dv 4 (by omega)), (vr 0 16).trans (dv 16 (by omega)), (vr 0 19).trans (dv 19 (by omega))⟩, fun k hk => ?_, fun i k h1 h2 => (vr i k).trans (uz i k h1 h2), fun k hk => (vr 10 k).trans (uw k hk), fun k hk => (vr 11 k).trans (ux k hk)⟩
    have hc : k = 0 ∨ k = 1 ∨ k = 2 ∨ k = 3 ∨ k = 4 ∨ k = 5 ∨ k = 6 ∨ k = 7 ∨ k = 8 ∨ k = 9 ∨ k = 10 := by omega
    rcases hc with z | z | z | z | z | z | z | z | z | z | z <;> subst z
    · exact (vr 0 5).trans (u5.trans (congrArg Value.ref (fr 1).symm))
    · exact (vr 0 6).trans (u6.trans (congrArg Value.ref (fr 2).symm))
    · exact (vr 0 7).trans (u7.trans (congrArg Value.ref (fr 3).symm))
    · exact (vr 0 8).trans (u8.trans (congrArg Value.ref (fr 4).symm))
    · exact (vr 0 9).trans (u9.trans (congrArg Value.ref (fr 5).symm))
    · exact (vr 0 10).trans (u10.trans (congrArg Value.ref (fr 6).symm))
    · exact (vr 0 11).trans (u11.trans (congrArg Value.ref (fr 7).symm))
    · exact (vr 0 12).trans (u12.trans (congrArg Value.ref (fr 8).symm))
    · exact (vr 0 13).trans (u13.trans (congrArg Value.ref (fr 9).symm))
    · exact (vr 0 14).trans (u14.trans (congrArg Value.ref (fr 10).symm))
    · exact (vr 0 15).trans (u15.trans (congrArg Value.ref (fr 11).symm))
  clear u2 u3 u5 u6 u7 u8 u9 u10 u11 u12 u13 u14 u15 uo uz uw ux dv hI fl vl fr vr h0
  simp only [Option.toList, List.nil_append]
  refine v_astore_n C (lv' := [(0, .ref b), (1, .ref b1), (2, .ref b2)]) [1, 2, 0] 16 rfl dL_law_15 (Nat.le_of_ble_eq_true rfl) rfl ?_
  refine v_iconst C 1 rfl 17 rfl dL_law_16 ?_
  refine v_newa C (t := 3) (N := 1) (by decide) rfl ar_3 (by decide) rfl (by decide) ⟨Nat.le_of_ble_eq_true rfl, Nat.le_of_ble_eq_true rfl⟩ 445 10676 rfl rfl 19 rfl dL_law_17 fun b3 hn3 => ?_
  obtain ⟨f4, V4, hB, fl, vl, fr, vr⟩ := hB.ycat (m := 1) hn3 (g := fun _ => b3) rfl (by decide) (Blk.one (G := jGof F) (jMade_a _ _ (2, 3, 1) _).1 (Or.inr (Or.inl rfl))) (fun t ht => by obtain rfl : t = 0 := (by omega); rfl) (n' := 444) rfl
  have hq : xQ f4 V4 := xQ_e hq (fun j hj => fl _ (by omega)) (fun j hj _ k => vl _ (by omega) k)
  have hr : ∀ i, i < 8 → xR f4 V4 i := fun i hi => xR_e hi (hr i hi) (fun j hj => fl _ (by omega)) (fun j hj k => vl _ (by omega) k)
  have hm : mQ f4 V4 := mQ_e hm (fun j hj => fl _ (by omega)) (fun j hj k => vl _ (by omega) k)
  have e1 : f4 0 = b1 := (fl 0 (by omega)).trans e1
  have e2 : f4 431 = b2 := (fl 431 (by omega)).trans e2
  have e3 : f4 443 = b3 := fr 0
  clear fl vl fr vr
  generalize jMade _ b3 (2, 3, 1) _ = σ3 at hB ⊢
  refine v_astore_n C (lv' := [(0, .ref b), (1, .ref b1), (2, .ref b2), (3, .ref b3)]) [1, 2, 3, 0] 20 rfl dL_law_19 (Nat.le_of_ble_eq_true rfl) rfl ?_
  refine v_iconst C 1 rfl 21 rfl dL_law_20 ?_
  refine v_newa C (t := 4) (N := 1) (by decide) rfl ar_4 (by decide) rfl (by decide) ⟨Nat.le_of_ble_eq_true rfl, Nat.le_of_ble_eq_true rfl⟩ 446 10677 rfl rfl 23 rfl dL_law_21 fun b4 hn4 => ?_
  obtain ⟨f5, V5, hB, fl, vl, fr, vr⟩ := hB.ycat (m := 1) hn4 (g := fun _ => b4) rfl (by decide) (Blk.one (G := jGof F) (jMade_a _ _ (2, 4, 1) _).1 (Or.inr (Or.inl rfl))) (fun t ht => by obtain rfl : t = 0 := (by omega); rfl) (n' := 445) rfl
  have hq : xQ f5 V5 := xQ_e hq (fun j hj => fl _ (by omega)) (fun j hj _ k => vl _ (by omega) k)
  have hr : ∀ i, i < 8 → xR f5 V5 i := fun i hi => xR_e hi (hr i hi) (fun j hj => fl _ (by omega)) (fun j hj k => vl _ (by omega) k)
  have hm : mQ f5 V5 := mQ_e hm (fun j hj => fl _ (by omega)) (fun j hj k => vl _ (by omega) k)
  have e1 : f5 0 = b1 := (fl 0 (by omega)).trans e1
  have e2 : f5 431 = b2 := (fl 431 (by omega)).trans e2
  have e3 : f5 443 = b3 := (fl 443 (by omega)).trans e3
  have e4 : f5 444 = b4 := fr 0
  clear fl vl fr vr
  generalize jMade _ b4 (2, 4, 1) _ = σ4 at hB ⊢
  refine v_astore C (lv' := [(0, .ref b), (1, .ref b1), (2, .ref b2), (3, .ref b3), (4, .ref b4)]) [1, 2, 3, 4, 0] 25 rfl dL_law_23 (Nat.le_of_ble_eq_true rfl) rfl ?_
  refine v_iconst C 0 rfl 26 rfl dL_law_25 ?_
  refine v_istore C (lv' := [(0, .ref b), (1, .ref b1), (2, .ref b2), (3, .ref b3), (4, .ref b4), (5, .int 0)]) [1, 2, 3, 4, 5, 0] 28 rfl dL_law_26 (Nat.le_of_ble_eq_true rfl) rfl ?_
  have K := kk σ4 f5 V5 hB hq hr hm
  rw [e1, e2, e3, e4] at K
  exact K
