/-! ===== the constructor of Workroom ===== -/
/-- the shapes of a room's cells -/
def wS (j : Nat) : Nat × Nat × Nat := if j = 0 then (3, 9, 11) else if j = 1 then (2, 0, 4) else if j = 2 then (4, 5, 5) else if j = 3 then (4, 6, 6) else if j < 14 then (if j % 2 = 0 then (1, 4, 2) else (2, 0, 16)) else (if j % 4 = 2 then (1, 8, 8) else if j % 4 = 3 then (2, 1, 16) else (2, 0, 16))
/-- the room and its rows of numbers -/
def wH (f : Nat → Nat) (V : Nat → Nat → Value) : Prop := V 0 0 = .ref (f 1) ∧ V 0 1 = .ref (f 2) ∧ V 0 2 = .int 0 ∧ V 0 3 = .ref (f 3) ∧ (∀ k, 4 ≤ k → k < 11 → V 0 k = .int 0) ∧ ∀ k, V 1 k = .int 0
def wC (f : Nat → Nat) (V : Nat → Nat → Value) (c : Nat) : Prop := V 2 c = .ref (f (4 + 2 * c)) ∧ V (4 + 2 * c) 0 = .int 0 ∧ V (4 + 2 * c) 1 = .ref (f (5 + 2 * c)) ∧ ∀ k, V (5 + 2 * c) k = .int 0
def wU (f : Nat → Nat) (V : Nat → Nat → Value) (s : Nat) : Prop := V 3 s = .ref (f (14 + 4 * s)) ∧ (∀ k, k < 5 → V (14 + 4 * s) k = .int 0) ∧ V (14 + 4 * s) 5 = .ref (f (15 + 4 * s)) ∧ V (14 + 4 * s) 6 = .ref (f (16 + 4 * s)) ∧ V (14 + 4 * s) 7 = .ref (f (17 + 4 * s)) ∧ (∀ k, V (15 + 4 * s) k = .int 0) ∧ (∀ k, V (16 + 4 * s) k = .int 0) ∧ ∀ k, V (17 + 4 * s) k = .int 0
theorem fg_X5_17 : jFld RX5 17 9 11 1 := ⟨RX5, TX5, rfl, in_X5, by decide, Or.inl (TB_in (by decide +kernel) (by decide +kernel))⟩
theorem fg_X5_27 : jFld RX5 27 9 11 3 := ⟨RX5, TX5, rfl, in_X5, by decide, Or.inl (TB_in (by decide +kernel) (by decide +kernel))⟩
theorem nw_RX5_15 : jNw RX5 15 4 2 tyX0 := ⟨RX0, TX0, rfl, in_X0, tyX0_ok, (TB_in (by decide +kernel) (by decide +kernel)), (TB_in (by decide +kernel) (by decide +kernel)), (TB_in (by decide +kernel) (by decide +kernel))⟩
theorem nw_RX5_25 : jNw RX5 25 8 8 tyX4 := ⟨RX4, TX4, rfl, in_X4, tyX4_ok, (TB_in (by decide +kernel) (by decide +kernel)), (TB_in (by decide +kernel) (by decide +kernel)), (TB_in (by decide +kernel) (by decide +kernel))⟩
theorem mi_RX5_52 : Cond.methodLink RX5 52 yX0_init ∈ TB ∨ ∃ host, Cond.methodLinkNest RX5 52 yX0_init host ∈ TB := Or.inr ⟨"TailorWorkshop", (TB_in (by decide +kernel) (by decide +kernel))⟩
theorem yi_X0 : jYI yX0_init cX0_init 1 0 := ⟨(TB_in (by decide +kernel) (by decide +kernel)), rfl, (TB_in (by decide +kernel) (by decide +kernel)), (TB_in (by decide +kernel) (by decide +kernel)), ⟨by decide +kernel, by decide +kernel⟩, by decide +kernel⟩
theorem mi_RX5_53 : Cond.methodLink RX5 53 yX4_init ∈ TB ∨ ∃ host, Cond.methodLinkNest RX5 53 yX4_init host ∈ TB := Or.inr ⟨"TailorWorkshop", (TB_in (by decide +kernel) (by decide +kernel))⟩
theorem yi_X4 : jYI yX4_init cX4_init 1 0 := ⟨(TB_in (by decide +kernel) (by decide +kernel)), rfl, (TB_in (by decide +kernel) (by decide +kernel)), (TB_in (by decide +kernel) (by decide +kernel)), ⟨by decide +kernel, by decide +kernel⟩, by decide +kernel⟩
theorem oi_l_RX5 : Cond.methodLink RX5 3 Lib.objectInit ∈ TB := (TB_in (by decide +kernel) (by decide +kernel))
theorem fp_X5_9 : jFlf RX5 9 9 11 0 (.array .int) := ⟨TX5, tyX5, rfl, in_X5, tyX5_ok, nmX5, by decide, rfl, rfl, rfl, (TB_in (by decide +kernel) (by decide +kernel))⟩
theorem cl_RX5_15 : Cond.classLink RX5 15 RX0 ∈ TB := (TB_in (by decide +kernel) (by decide +kernel))
theorem ao_X0 : Cond.arrayOver (.object RX0) ∈ TB := (TB_in (by decide +kernel) (by decide +kernel))
theorem fp_X5_17 : jFlf RX5 17 9 11 1 (.array (.object RX0)) := ⟨TX5, tyX5, rfl, in_X5, tyX5_ok, nmX5, by decide, rfl, rfl, rfl, (TB_in (by decide +kernel) (by decide +kernel))⟩
theorem fp_X5_21 : jFlw RX5 21 9 11 2 .int := ⟨RX5, TX5, tyX5, rfl, in_X5, tyX5_ok, nmX5, by decide, rfl, rfl, Or.inl (TB_in (by decide +kernel) (by decide +kernel))⟩
theorem cl_RX5_25 : Cond.classLink RX5 25 RX4 ∈ TB := (TB_in (by decide +kernel) (by decide +kernel))
theorem ao_X4 : Cond.arrayOver (.object RX4) ∈ TB := (TB_in (by decide +kernel) (by decide +kernel))
theorem fp_X5_27 : jFlf RX5 27 9 11 3 (.array (.object RX4)) := ⟨TX5, tyX5, rfl, in_X5, tyX5_ok, nmX5, by decide, rfl, rfl, rfl, (TB_in (by decide +kernel) (by decide +kernel))⟩
theorem fp_X5_31 : jFlw RX5 31 9 11 4 .int := ⟨RX5, TX5, tyX5, rfl, in_X5, tyX5_ok, nmX5, by decide, rfl, rfl, Or.inl (TB_in (by decide +kernel) (by decide +kernel))⟩
theorem fp_X5_34 : jFlw RX5 34 9 11 5 .int := ⟨RX5, TX5, tyX5, rfl, in_X5, tyX5_ok, nmX5, by decide, rfl, rfl, Or.inl (TB_in (by decide +kernel) (by decide +kernel))⟩
theorem fp_X5_37 : jFlw RX5 37 9 11 6 .int := ⟨RX5, TX5, tyX5, rfl, in_X5, tyX5_ok, nmX5, by decide, rfl, rfl, Or.inl (TB_in (by decide +kernel) (by decide +kernel))⟩
theorem fp_X5_40 : jFlw RX5 40 9 11 7 .int := ⟨RX5, TX5, tyX5, rfl, in_X5, tyX5_ok, nmX5, by decide, rfl, rfl, Or.inl (TB_in (by decide +kernel) (by decide +kernel))⟩
theorem fp_X5_43 : jFlw RX5 43 9 11 8 .int := ⟨RX5, TX5, tyX5, rfl, in_X5, tyX5_ok, nmX5, by decide, rfl, rfl, Or.inl (TB_in (by decide +kernel) (by decide +kernel))⟩
theorem fp_X5_46 : jFlw RX5 46 9 11 9 .int := ⟨RX5, TX5, tyX5, rfl, in_X5, tyX5_ok, nmX5, by decide, rfl, rfl, Or.inl (TB_in (by decide +kernel) (by decide +kernel))⟩
theorem fp_X5_49 : jFlw RX5 49 9 11 10 .int := ⟨RX5, TX5, tyX5, rfl, in_X5, tyX5_ok, nmX5, by decide, rfl, rfl, Or.inl (TB_in (by decide +kernel) (by decide +kernel))⟩
theorem v_budget {k1 k2 k1' k2' : Nat} {F : jFm} {nL : Nat} {σ : jH} {pc : Nat} {lv : List (Nat × Value)} {st : List Value} (h1 : k1 = k1') (h2 : k2 = k2') (kk : jV F nL k1' k2' σ pc lv st) : jV F nL k1 k2 σ pc lv st := by subst h1 h2; exact kk
section WROOM
variable {l : Launch} {G : jG} {σ : jH} {a : Nat} {F : jFm}
theorem wroom_end (C : jB F RX5 cX5_init 2 none 2 37 441 40) (hG : jGof F = G) (ho : ∀ r σ', jEndQ F r σ' = (r = none ∧ ∃ f V, f 0 = a ∧ Blk G σ σ' 38 f (updS (updS (updS wS 2 (2, 5, 5)) 3 (2, 6, 6)) 0 (1, 9, 11)) V ∧ wH f V ∧ (∀ c, c < 5 → wC f V c) ∧ ∀ s, s < 6 → wU f V s)) {σ1 : jH} {f : Nat → Nat} {V : Nat → Nat → Value} {lv : List (Nat × Value)} (hf : f 0 = a) (hB : Blk G σ σ1 38 f wS V) (h1 : wH f V) (h2 : ∀ c, c < 5 → wC f V c) (h3 : ∀ s, s < 6 → wU f V s) : jV F 2 37 441 σ1 121 lv [] := by
  have hP2 := hB.pro (i := 2) (by decide) (e := (2, 5, 5)) (Or.inr (Or.inl rfl))
  refine v_pro4 (a := f 2) (hB.2.2.1 2 (by decide)).1 (fun j hj => ?_) ?_
  · have hc : j = 0 ∨ j = 1 ∨ j = 2 ∨ j = 3 ∨ j = 4 := by omega
    have e := (hB.2.2.1 2 (by decide)).2 j
    rw [(h2 j hj).1] at e
    refine ⟨_, e, ?_⟩
    rcases hc with z | z | z | z | z <;> subst z <;> exact (hP2.2.2.1 _ (by decide)).1
  have hP3 := hP2.pro (i := 3) (by decide) (e := (2, 6, 6)) (Or.inr (Or.inl rfl))
  refine v_pro4 (a := f 3) (hP2.2.2.1 3 (by decide)).1 (fun j hj => ?_) ?_
  · have hc : j = 0 ∨ j = 1 ∨ j = 2 ∨ j = 3 ∨ j = 4 ∨ j = 5 := by omega
    have e := (hP2.2.2.1 3 (by decide)).2 j
    rw [(h3 j hj).1] at e
    refine ⟨_, e, ?_⟩
    rcases hc with z | z | z | z | z | z <;> subst z <;> exact (hP3.2.2.1 _ (by decide)).1
  have hP0 := hP3.pro (i := 0) (by decide) (e := (1, 9, 11)) (Or.inl rfl)
  obtain ⟨w0, w1, w2, w3, w4, w5⟩ := id h1
  have val : ∀ j, (jPro (jPro σ1 (f 2) (2, 5, 5)) (f 3) (2, 6, 6)).2 (f 0) j = V 0 j := (hP3.2.2.1 0 (by decide)).2
  refine v_pro (a := f 0) (i := 9) (N := 11) (hP3.2.2.1 0 (by decide)).1 (fun j hj => ?_) ?_
  · rw [val]
    by_cases z : 4 ≤ j
    · rw [w4 j z hj]
      have hc : j = 4 ∨ j = 5 ∨ j = 6 ∨ j = 7 ∨ j = 8 ∨ j = 9 ∨ j = 10 := by omega
      rcases hc with z | z | z | z | z | z | z <;> subst z <;> exact ⟨0, rfl⟩
    · have hc : j = 0 ∨ j = 1 ∨ j = 2 ∨ j = 3 := by omega
      rcases hc with z | z | z | z <;> subst z
      · rw [w0]; exact ⟨_, rfl, (hP0.2.2.1 1 (by decide)).1⟩
      · rw [w1]; exact ⟨_, rfl, (hP0.2.2.1 2 (by decide)).1⟩
      · rw [w2]; exact ⟨0, rfl⟩
      · rw [w3]; exact ⟨_, rfl, (hP0.2.2.1 3 (by decide)).1⟩
  refine v_vret C (Nat.le_of_ble_eq_true rfl) (Nat.le_of_ble_eq_true rfl) dX5_init_121 ?_
  rw [ho]
  exact ⟨rfl, f, V, hf, hP0, h1, h2, h3⟩
theorem wroom_suits (C : jB F RX5 cX5_init 2 none 2 37 441 40) (hG : jGof F = G) (ho : ∀ r σ', jEndQ F r σ' = (r = none ∧ ∃ f V, f 0 = a ∧ Blk G σ σ' 38 f (updS (updS (updS wS 2 (2, 5, 5)) 3 (2, 6, 6)) 0 (1, 9, 11)) V ∧ wH f V ∧ (∀ c, c < 5 → wC f V c) ∧ ∀ s, s < 6 → wU f V s)) : ∀ (q i : Nat) (σ1 : jH) (f : Nat → Nat) (V : Nat → Nat → Value), i + q = 6 → f 0 = a → Blk G σ σ1 (14 + 4 * i) f wS V → wH f V → (∀ c, c < 5 → wC f V c) → (∀ s, s < i → wU f V s) → jV F 2 (13 + 4 * i) (105 + 56 * i) σ1 96 [(0, .ref a), (1, .int (oN i))] [] := by
  intro q
  induction q with
  | zero =>
    intro i σ1 f V g1 hf hB h1 h2 h3
    have hi6 : i = 6 := by omega
    subst hi6
    refine v_iload_n C.1 1 97 rfl dX5_init_96 rfl ?_
    refine v_bipush C.1 6 rfl 99 rfl dX5_init_97 ?_
    refine v_icmp_ge C.1 121 102 rfl dX5_init_99 rfl ⟨fun _ => ?_, fun c => absurd (by decide) c⟩
    exact wroom_end C hG ho hf hB h1 h2 h3
  | succ q ih =>
    intro i σ1 f V g1 hf hB h1 h2 h3
    have hi : i < 6 := by omega
    have hn : ¬ (6 : Int32) ≤ oN i := fun h => by have := (oN_le (a := 6) (by omega) (by omega)).mp h; omega
    refine v_iload_n C.1 1 97 rfl dX5_init_96 rfl ?_
    refine v_bipush C.1 6 rfl 99 rfl dX5_init_97 ?_
    refine v_icmp_ge C.1 121 102 rfl dX5_init_99 rfl ⟨fun c => absurd c hn, fun _ => ?_⟩
    have s0 : σ1.1 a = (3, 9, 11) := by rw [← hf]; exact (hB.2.2.1 0 (by omega)).1
    have v3 : σ1.2 a 3 = .ref (f 3) := by rw [← hf, (hB.2.2.1 0 (by omega)).2, h1.2.2.2.1]
    refine v_aload_n C.1 0 103 rfl dX5_init_102 rfl ?_
    refine v_getV C.1 3 fg_X5_27 s0 v3 106 rfl dX5_init_103 ?_
    refine v_iload_n C.1 1 107 rfl dX5_init_106 rfl ?_
    refine v_newc C.1 nw_RX5_25 ⟨by omega, by omega⟩ (13 + 4 * i + 1) (105 + 56 * i + 8) rfl rfl 110 rfl dX5_init_107 fun b hb => ?_
    rw [hG] at hb
    refine v_dup C.1 rfl 111 rfl dX5_init_110 ?_
    refine v_callI C.1 (st := [.ref b, .int (oN i), .ref (f 3)]) (c_X4_init (jMade_a _ _ _ _).1) yi_X4 mi_RX5_53 rfl ⟨(Nat.le_of_ble_eq_true rfl), (Nat.le_of_ble_eq_true rfl)⟩ ⟨by omega, by omega⟩ (Nat.le_of_ble_eq_true rfl) rfl (13 + 4 * (i + 1)) (105 + 56 * (i + 1)) (by omega) (by omega) 114 rfl dX5_init_111 (fun r σ2 hr => ?_)
    obtain ⟨rfl, g, W, g0, hI, w0, w1, w2, w3, w4, w5, w6, w7, w8, w9, w10⟩ := hr
    rw [hG] at hI
    subst g0
    have hB2 := hB.cat hb rfl (by decide) hI
    have fr : ∀ j, catF (14 + 4 * i) f g (14 + 4 * i + j) = g j := fun j => catF_r _ _ _ j
    have fl : ∀ j, j < 14 + 4 * i → catF (14 + 4 * i) f g j = f j := fun j hj => catF_l _ _ hj
    have vr : ∀ j, catF (14 + 4 * i) V W (14 + 4 * i + j) = W j := fun j => catF_r _ _ _ j
    have vl : ∀ j, j < 14 + 4 * i → catF (14 + 4 * i) V W j = V j := fun j hj => catF_l _ _ hj
    have hB3 : Blk G σ σ2 (14 + 4 * (i + 1)) (catF (14 + 4 * i) f g) wS (catF (14 + 4 * i) V W) := by
      have := hB2.to (f' := catF (14 + 4 * i) f g) (S' := wS) (V' := catF (14 + 4 * i) V W) (fun _ _ => rfl) (fun j hj => ?_) (fun _ _ _ => rfl)
      · rw [show 14 + 4 * (i + 1) = 14 + 4 * i + 4 from by omega]; exact this
      · by_cases z : j < 14 + 4 * i
        · rw [catF_l _ _ z]
        · obtain ⟨t, ht⟩ : ∃ t, j = 14 + 4 * i + t := ⟨j - (14 + 4 * i), by omega⟩
          subst ht
          rw [catF_r]
          have h4 : t = 0 ∨ t = 1 ∨ t = 2 ∨ t = 3 := by omega
          unfold wS
          rw [if_neg (by omega), if_neg (by omega), if_neg (by omega), if_neg (by omega), if_neg (by omega)]
          rcases h4 with z | z | z | z <;> subst z
          · rw [if_pos (by omega)]; rfl
          · rw [if_neg (by omega), if_pos (by omega)]; rfl
          · rw [if_neg (by omega), if_neg (by omega)]; rfl
          · rw [if_neg (by omega), if_neg (by omega)]; rfl
    have e3 : catF (14 + 4 * i) f g 3 = f 3 := fl 3 (by omega)
    have sA : σ2.1 (f 3) = (4, 6, 6) := by rw [← e3]; exact (hB3.2.2.1 3 (by omega)).1
    have sb : σ2.1 (g 0) = (1, 8, 8) := by have := (hB3.2.2.1 (14 + 4 * i) (by omega)).1; rw [show catF (14 + 4 * i) f g (14 + 4 * i) = g 0 from fr 0] at this; rw [this]; unfold wS; rw [if_neg (by omega), if_neg (by omega), if_neg (by omega), if_neg (by omega), if_neg (by omega), if_pos (by omega)]
    show jV F 2 (13 + 4 * (i + 1)) (105 + 56 * (i + 1)) σ2 114 _ [.ref (g 0), .int (oN i), .ref (f 3)]
    refine v_aastM C.1 (r := (RX4, TX4, 8)) (ci := 8) (t := 6) (n := 6) rfl rfl sb sA hi (by omega) 115 rfl dX5_init_114 ?_
    have hB4 := hB3.put (i := 3) (by omega) i (.ref (g 0))
    rw [e3] at hB4
    generalize pV σ2 (f 3) i (.ref (g 0)) = σ3 at hB4 ⊢
    refine v_iinc C.1 (lv' := [(0, .ref a), (1, .int (oN (i + 1)))]) 1 [1, 0] 118 rfl dX5_init_115 rfl (Nat.le_of_ble_eq_true rfl) (oN_add i 1) rfl ?_
    refine v_goto C.1 96 dX5_init_118 rfl ?_
    have up : ∀ j k, ¬ (j = 3 ∧ k = i) → updW (catF (14 + 4 * i) V W) 3 i (.ref (g 0)) j k = catF (14 + 4 * i) V W j k := fun j k h => if_neg h
    obtain ⟨q0, q1, q2, q3, q4, q5⟩ := id h1
    refine ih (i + 1) σ3 (catF (14 + 4 * i) f g) _ (by omega) ((fl 0 (by omega)).trans hf) hB4 ⟨?_, ?_, ?_, ?_, fun k k1 k2 => ?_, fun k => ?_⟩ (fun c hc => ?_) (fun s hs => ?_)
    · rw [up _ _ (by omega), vl 0 (by omega), fl 1 (by omega)]; exact q0
    · rw [up _ _ (by omega), vl 0 (by omega), fl 2 (by omega)]; exact q1
    · rw [up _ _ (by omega), vl 0 (by omega)]; exact q2
    · rw [up _ _ (by omega), vl 0 (by omega), fl 3 (by omega)]; exact q3
    · rw [up _ _ (by omega), vl 0 (by omega)]; exact q4 k k1 k2
    · rw [up _ _ (by omega), vl 1 (by omega)]; exact q5 k
    · obtain ⟨c0, c1, c2, c3⟩ := h2 c hc
      refine ⟨?_, ?_, ?_, fun k => ?_⟩
      · rw [up _ _ (by omega), vl _ (by omega), fl _ (by omega)]; exact c0
      · rw [up _ _ (by omega), vl _ (by omega)]; exact c1
      · rw [up _ _ (by omega), vl _ (by omega), fl _ (by omega)]; exact c2
      · rw [up _ _ (by omega), vl _ (by omega)]; exact c3 k
    · by_cases z : s < i
      · obtain ⟨c0, c1, c2, c3, c4, c5, c6, c7⟩ := h3 s z
        refine ⟨?_, fun k hk => ?_, ?_, ?_, ?_, fun k => ?_, fun k => ?_, fun k => ?_⟩
        · rw [up _ _ (by omega), vl _ (by omega), fl _ (by omega)]; exact c0
        · rw [up _ _ (by omega), vl _ (by omega)]; exact c1 k hk
        · rw [up _ _ (by omega), vl _ (by omega), fl _ (by omega)]; exact c2
        · rw [up _ _ (by omega), vl _ (by omega), fl _ (by omega)]; exact c3
        · rw [up _ _ (by omega), vl _ (by omega), fl _ (by omega)]; exact c4
        · rw [up _ _ (by omega), vl _ (by omega)]; exact c5 k
        · rw [up _ _ (by omega), vl _ (by omega)]; exact c6 k
        · rw [up _ _ (by omega), vl _ (by omega)]; exact c7 k
      · have es : s = i := by omega
        subst es
        refine ⟨?_, fun k hk => ?_, ?_, ?_, ?_, fun k => ?_, fun k => ?_, fun k => ?_⟩
        · rw [show catF (14 + 4 * s) f g (14 + 4 * s) = g 0 from fr 0]; exact if_pos ⟨rfl, rfl⟩
        · rw [up _ _ (by omega), show catF (14 + 4 * s) V W (14 + 4 * s) = W 0 from vr 0]
          have hc : k = 0 ∨ k = 1 ∨ k = 2 ∨ k = 3 ∨ k = 4 := by omega
          rcases hc with z | z | z | z | z <;> subst z
          · exact w0
          · exact w1
          · exact w2
          · exact w3
          · exact w4
        · rw [up _ _ (by omega), show catF (14 + 4 * s) V W (14 + 4 * s) = W 0 from vr 0, show 15 + 4 * s = 14 + 4 * s + 1 from by omega, fr 1]; exact w5
        · rw [up _ _ (by omega), show catF (14 + 4 * s) V W (14 + 4 * s) = W 0 from vr 0, show 16 + 4 * s = 14 + 4 * s + 2 from by omega, fr 2]; exact w6
        · rw [up _ _ (by omega), show catF (14 + 4 * s) V W (14 + 4 * s) = W 0 from vr 0, show 17 + 4 * s = 14 + 4 * s + 3 from by omega, fr 3]; exact w7
        · rw [up _ _ (by omega), show 15 + 4 * s = 14 + 4 * s + 1 from by omega, vr 1]; exact w8 k
        · rw [up _ _ (by omega), show 16 + 4 * s = 14 + 4 * s + 2 from by omega, vr 2]; exact w9 k
        · rw [up _ _ (by omega), show 17 + 4 * s = 14 + 4 * s + 3 from by omega, vr 3]; exact w10 k
theorem wroom_custs (C : jB F RX5 cX5_init 2 none 2 37 441 40) (hG : jGof F = G) (ho : ∀ r σ', jEndQ F r σ' = (r = none ∧ ∃ f V, f 0 = a ∧ Blk G σ σ' 38 f (updS (updS (updS wS 2 (2, 5, 5)) 3 (2, 6, 6)) 0 (1, 9, 11)) V ∧ wH f V ∧ (∀ c, c < 5 → wC f V c) ∧ ∀ s, s < 6 → wU f V s)) : ∀ (q i : Nat) (σ1 : jH) (f : Nat → Nat) (V : Nat → Nat → Value), i + q = 5 → f 0 = a → Blk G σ σ1 (4 + 2 * i) f wS V → wH f V → (∀ c, c < i → wC f V c) → jV F 2 (3 + 2 * i) (15 + 18 * i) σ1 70 [(0, .ref a), (1, .int (oN i))] [] := by
  intro q
  induction q with
  | zero =>
    intro i σ1 f V g1 hf hB h1 h2
    have hi5 : i = 5 := by omega
    subst hi5
    refine v_iload_n C.1 1 71 rfl dX5_init_70 rfl ?_
    refine v_iconst C.1 5 rfl 72 rfl dX5_init_71 ?_
    refine v_icmp_ge C.1 94 75 rfl dX5_init_72 rfl ⟨fun _ => ?_, fun c => absurd (by decide) c⟩
    refine v_iconst C.1 0 rfl 95 rfl dX5_init_94 ?_
    refine v_istore_n C.1 (lv' := [(0, .ref a), (1, .int (oN 0))]) [1, 0] 96 rfl dX5_init_95 (Nat.le_of_ble_eq_true rfl) rfl ?_
    exact wroom_suits C hG ho 6 0 σ1 f V (by omega) hf hB h1 h2 (fun s hs => absurd hs (Nat.not_lt_zero _))
  | succ q ih =>
    intro i σ1 f V g1 hf hB h1 h2
    have hi : i < 5 := by omega
    have hn : ¬ (5 : Int32) ≤ oN i := fun h => by have := (oN_le (a := 5) (by omega) (by omega)).mp h; omega
    refine v_iload_n C.1 1 71 rfl dX5_init_70 rfl ?_
    refine v_iconst C.1 5 rfl 72 rfl dX5_init_71 ?_
    refine v_icmp_ge C.1 94 75 rfl dX5_init_72 rfl ⟨fun c => absurd c hn, fun _ => ?_⟩
    have s0 : σ1.1 a = (3, 9, 11) := by rw [← hf]; exact (hB.2.2.1 0 (by omega)).1
    have v3 : σ1.2 a 1 = .ref (f 2) := by rw [← hf, (hB.2.2.1 0 (by omega)).2, h1.2.1]
    refine v_aload_n C.1 0 76 rfl dX5_init_75 rfl ?_
    refine v_getV C.1 1 fg_X5_17 s0 v3 79 rfl dX5_init_76 ?_
    refine v_iload_n C.1 1 80 rfl dX5_init_79 rfl ?_
    refine v_newc C.1 nw_RX5_15 ⟨by omega, by omega⟩ (3 + 2 * i + 1) (15 + 18 * i + 2) rfl rfl 83 rfl dX5_init_80 fun b hb => ?_
    rw [hG] at hb
    refine v_dup C.1 rfl 84 rfl dX5_init_83 ?_
    refine v_callI C.1 (st := [.ref b, .int (oN i), .ref (f 2)]) (c_X0_init (jMade_a _ _ _ _).1) yi_X0 mi_RX5_52 rfl ⟨(Nat.le_of_ble_eq_true rfl), (Nat.le_of_ble_eq_true rfl)⟩ ⟨by omega, by omega⟩ (Nat.le_of_ble_eq_true rfl) rfl (3 + 2 * (i + 1)) (15 + 18 * (i + 1)) (by omega) (by omega) 87 rfl dX5_init_84 (fun r σ2 hr => ?_)
    obtain ⟨rfl, g, W, g0, hI, w0, w1, w2⟩ := hr
    rw [hG] at hI
    subst g0
    have hB2 := hB.cat hb rfl (by decide) hI
    have fr : ∀ j, catF (4 + 2 * i) f g (4 + 2 * i + j) = g j := fun j => catF_r _ _ _ j
    have fl : ∀ j, j < 4 + 2 * i → catF (4 + 2 * i) f g j = f j := fun j hj => catF_l _ _ hj
    have vr : ∀ j, catF (4 + 2 * i) V W (4 + 2 * i + j) = W j := fun j => catF_r _ _ _ j
    have vl : ∀ j, j < 4 + 2 * i → catF (4 + 2 * i) V W j = V j := fun j hj => catF_l _ _ hj
    have hB3 : Blk G σ σ2 (4 + 2 * (i + 1)) (catF (4 + 2 * i) f g) wS (catF (4 + 2 * i) V W) := by
      have := hB2.to (f' := catF (4 + 2 * i) f g) (S' := wS) (V' := catF (4 + 2 * i) V W) (fun _ _ => rfl) (fun j hj => ?_) (fun _ _ _ => rfl)
      · rw [show 4 + 2 * (i + 1) = 4 + 2 * i + 2 from by omega]; exact this
      · by_cases z : j < 4 + 2 * i
        · rw [catF_l _ _ z]
        · obtain ⟨t, ht⟩ : ∃ t, j = 4 + 2 * i + t := ⟨j - (4 + 2 * i), by omega⟩
          subst ht
          rw [catF_r]
          have h4 : t = 0 ∨ t = 1 := by omega
          unfold wS
          rw [if_neg (by omega), if_neg (by omega), if_neg (by omega), if_neg (by omega), if_pos (by omega)]
          rcases h4 with z | z <;> subst z
          · rw [if_pos (by omega)]; rfl
          · rw [if_neg (by omega)]; rfl
    have e3 : catF (4 + 2 * i) f g 2 = f 2 := fl 2 (by omega)
    have sA : σ2.1 (f 2) = (4, 5, 5) := by rw [← e3]; exact (hB3.2.2.1 2 (by omega)).1
    have sb : σ2.1 (g 0) = (1, 4, 2) := by have := (hB3.2.2.1 (4 + 2 * i) (by omega)).1; rw [show catF (4 + 2 * i) f g (4 + 2 * i) = g 0 from fr 0] at this; rw [this]; unfold wS; rw [if_neg (by omega), if_neg (by omega), if_neg (by omega), if_neg (by omega), if_pos (by omega), if_pos (by omega)]
    show jV F 2 (3 + 2 * (i + 1)) (15 + 18 * (i + 1)) σ2 87 _ [.ref (g 0), .int (oN i), .ref (f 2)]
    refine v_aastM C.1 (r := (RX0, TX0, 2)) (ci := 4) (t := 5) (n := 5) rfl rfl sb sA hi (by omega) 88 rfl dX5_init_87 ?_
    have hB4 := hB3.put (i := 2) (by omega) i (.ref (g 0))
    rw [e3] at hB4
    generalize pV σ2 (f 2) i (.ref (g 0)) = σ3 at hB4 ⊢
    refine v_iinc C.1 (lv' := [(0, .ref a), (1, .int (oN (i + 1)))]) 1 [1, 0] 91 rfl dX5_init_88 rfl (Nat.le_of_ble_eq_true rfl) (oN_add i 1) rfl ?_
    refine v_goto C.1 70 dX5_init_91 rfl ?_
    have up : ∀ j k, ¬ (j = 2 ∧ k = i) → updW (catF (4 + 2 * i) V W) 2 i (.ref (g 0)) j k = catF (4 + 2 * i) V W j k := fun j k h => if_neg h
    obtain ⟨q0, q1, q2, q3, q4, q5⟩ := id h1
    refine ih (i + 1) σ3 (catF (4 + 2 * i) f g) _ (by omega) ((fl 0 (by omega)).trans hf) hB4 ⟨?_, ?_, ?_, ?_, fun k k1 k2 => ?_, fun k => ?_⟩ (fun c hc => ?_)
    · rw [up _ _ (by omega), vl 0 (by omega), fl 1 (by omega)]; exact q0
    · rw [up _ _ (by omega), vl 0 (by omega), fl 2 (by omega)]; exact q1
    · rw [up _ _ (by omega), vl 0 (by omega)]; exact q2
    · rw [up _ _ (by omega), vl 0 (by omega), fl 3 (by omega)]; exact q3
    · rw [up _ _ (by omega), vl 0 (by omega)]; exact q4 k k1 k2
    · rw [up _ _ (by omega), vl 1 (by omega)]; exact q5 k
    · by_cases z : c < i
      · obtain ⟨c0, c1, c2, c3⟩ := h2 c z
        refine ⟨?_, ?_, ?_, fun k => ?_⟩
        · rw [up _ _ (by omega), vl _ (by omega), fl _ (by omega)]; exact c0
        · rw [up _ _ (by omega), vl _ (by omega)]; exact c1
        · rw [up _ _ (by omega), vl _ (by omega), fl _ (by omega)]; exact c2
        · rw [up _ _ (by omega), vl _ (by omega)]; exact c3 k
      · have es : c = i := by omega
        subst es
        refine ⟨?_, ?_, ?_, fun k => ?_⟩
        · rw [show catF (4 + 2 * c) f g (4 + 2 * c) = g 0 from fr 0]; exact if_pos ⟨rfl, rfl⟩
        · rw [up _ _ (by omega), show catF (4 + 2 * c) V W (4 + 2 * c) = W 0 from vr 0]; exact w0
        · rw [up _ _ (by omega), show catF (4 + 2 * c) V W (4 + 2 * c) = W 0 from vr 0, show 5 + 2 * c = 4 + 2 * c + 1 from by omega, fr 1]; exact w1
        · rw [up _ _ (by omega), show 5 + 2 * c = 4 + 2 * c + 1 from by omega, vr 1]; exact w2 k
end WROOM
theorem c_X5_init {l : Launch} {G : jG} {σ : jH} {a : Nat} (h : σ.1 a = (3, 9, 11)) : jM l G yX5_init cX5_init 2 none 2 37 441 40 [.ref a] σ (fun r σ' => r = none ∧ ∃ f V, f 0 = a ∧ Blk G σ σ' 38 f (updS (updS (updS wS 2 (2, 5, 5)) 3 (2, 6, 6)) 0 (1, 9, 11)) V ∧ wH f V ∧ (∀ c, c < 5 → wC f V c) ∧ ∀ s, s < 6 → wU f V s) jNo := by
  refine r_body3 (by decide +kernel) rfl (Nat.le_of_ble_eq_true rfl) fun F C hl hG hN ho => ?_
  show jV F _ 0 0 σ 0 [(0, .ref a)] []
  have hB := Blk.one (G := G) h (Or.inr (Or.inr (Or.inl rfl)))
  refine v_aload_n C.1 0 1 rfl dX5_init_0 rfl ?_
  refine v_obj C.1 oi_l_RX5 oi_i oi_c ⟨(Nat.le_of_ble_eq_true rfl), (Nat.le_of_ble_eq_true rfl)⟩ 4 rfl dX5_init_1 ?_
  refine v_aload_n C.1 0 5 rfl dX5_init_4 rfl ?_
  refine v_iconst C.1 4 rfl 6 rfl dX5_init_5 ?_
  refine v_newa C.1 (t := 0) (N := 4) (by decide) rfl ar_0 (by decide) rfl (by decide) ⟨(Nat.le_of_ble_eq_true rfl), (Nat.le_of_ble_eq_true rfl)⟩ 1 4 rfl rfl 8 rfl dX5_init_6 fun b1 hn1 => ?_
  rw [hG] at hn1
  have hB := hB.add (d := fun _ => defaultValue (j_aty 0)) hn1 (e := (2, 0, 4)) (Or.inr (Or.inl rfl))
  generalize jMade _ b1 (2, 0, 4) (fun _ => defaultValue (j_aty 0)) = σ0 at hB ⊢
  refine v_putF C.1 hN 0 fp_X5_9 rfl rfl ((hB.2.2.1 0 (Nat.le_of_ble_eq_true rfl)).1) 11 rfl dX5_init_8 ?_
  have hB : Blk G σ (pV _ a 0 (.ref b1)) _ _ _ _ := hB.put (i := 0) (Nat.le_of_ble_eq_true rfl) 0 (.ref b1)
  generalize pV _ a 0 (.ref b1) = σ1 at hB ⊢
  refine v_aload_n C.1 0 12 rfl dX5_init_11 rfl ?_
  refine v_iconst C.1 5 rfl 13 rfl dX5_init_12 ?_
  refine v_anew C.1 (t := 5) (N := 5) ⟨by decide, by decide⟩ rfl cl_RX5_15 ao_X0 (by decide) rfl (by decide) ⟨(Nat.le_of_ble_eq_true rfl), (Nat.le_of_ble_eq_true rfl)⟩ 2 9 rfl rfl 16 rfl dX5_init_13 fun b2 hn2 => ?_
  rw [hG] at hn2
  have hB := hB.add (d := fun _ => .null) hn2 (e := (4, 5, 5)) (Or.inr (Or.inr (Or.inr (Or.inl rfl))))
  generalize jMade _ b2 (4, 5, 5) (fun _ => .null) = σ2 at hB ⊢
  refine v_putF C.1 hN 1 fp_X5_17 rfl rfl ((hB.2.2.1 0 (Nat.le_of_ble_eq_true rfl)).1) 19 rfl dX5_init_16 ?_
  have hB : Blk G σ (pV _ a 1 (.ref b2)) _ _ _ _ := hB.put (i := 0) (Nat.le_of_ble_eq_true rfl) 1 (.ref b2)
  generalize pV _ a 1 (.ref b2) = σ3 at hB ⊢
  refine v_aload_n C.1 0 20 rfl dX5_init_19 rfl ?_
  refine v_iconst C.1 0 rfl 21 rfl dX5_init_20 ?_
  refine v_put C.1 2 fp_X5_21 rfl rfl ((hB.2.2.1 0 (Nat.le_of_ble_eq_true rfl)).1) 24 rfl dX5_init_21 ?_
  have hB : Blk G σ (pV _ a 2 (.int 0)) _ _ _ _ := hB.put (i := 0) (Nat.le_of_ble_eq_true rfl) 2 (.int 0)
  generalize pV _ a 2 (.int 0) = σ4 at hB ⊢
  refine v_aload_n C.1 0 25 rfl dX5_init_24 rfl ?_
  refine v_bipush C.1 6 rfl 27 rfl dX5_init_25 ?_
  refine v_anew C.1 (t := 6) (N := 6) ⟨by decide, by decide⟩ rfl cl_RX5_25 ao_X4 (by decide) rfl (by decide) ⟨(Nat.le_of_ble_eq_true rfl), (Nat.le_of_ble_eq_true rfl)⟩ 3 15 rfl rfl 30 rfl dX5_init_27 fun b3 hn3 => ?_
  rw [hG] at hn3
  have hB := hB.add (d := fun _ => .null) hn3 (e := (4, 6, 6)) (Or.inr (Or.inr (Or.inr (Or.inl rfl))))
  generalize jMade _ b3 (4, 6, 6) (fun _ => .null) = σ5 at hB ⊢
  refine v_putF C.1 hN 3 fp_X5_27 rfl rfl ((hB.2.2.1 0 (Nat.le_of_ble_eq_true rfl)).1) 33 rfl dX5_init_30 ?_
  have hB : Blk G σ (pV _ a 3 (.ref b3)) _ _ _ _ := hB.put (i := 0) (Nat.le_of_ble_eq_true rfl) 3 (.ref b3)
  generalize pV _ a 3 (.ref b3) = σ6 at hB ⊢
  refine v_aload_n C.1 0 34 rfl dX5_init_33 rfl ?_
  refine v_iconst C.1 0 rfl 35 rfl dX5_init_34 ?_
  refine v_put C.1 4 fp_X5_31 rfl rfl ((hB.2.2.1 0 (Nat.le_of_ble_eq_true rfl)).1) 38 rfl dX5_init_35 ?_
  have hB : Blk G σ (pV _ a 4 (.int 0)) _ _ _ _ := hB.put (i := 0) (Nat.le_of_ble_eq_true rfl) 4 (.int 0)
  generalize pV _ a 4 (.int 0) = σ7 at hB ⊢
  refine v_aload_n C.1 0 39 rfl dX5_init_38 rfl ?_
  refine v_iconst C.1 0 rfl 40 rfl dX5_init_39 ?_
  refine v_put C.1 5 fp_X5_34 rfl rfl ((hB.2.2.1 0 (Nat.le_of_ble_eq_true rfl)).1) 43 rfl dX5_init_40 ?_
  have hB : Blk G σ (pV _ a 5 (.int 0)) _ _ _ _ := hB.put (i := 0) (Nat.le_of_ble_eq_true rfl) 5 (.int 0)
  generalize pV _ a 5 (.int 0) = σ8 at hB ⊢
  refine v_aload_n C.1 0 44 rfl dX5_init_43 rfl ?_
  refine v_iconst C.1 0 rfl 45 rfl dX5_init_44 ?_
  refine v_put C.1 6 fp_X5_37 rfl rfl ((hB.2.2.1 0 (Nat.le_of_ble_eq_true rfl)).1) 48 rfl dX5_init_45 ?_
  have hB : Blk G σ (pV _ a 6 (.int 0)) _ _ _ _ := hB.put (i := 0) (Nat.le_of_ble_eq_true rfl) 6 (.int 0)
  generalize pV _ a 6 (.int 0) = σ9 at hB ⊢
  refine v_aload_n C.1 0 49 rfl dX5_init_48 rfl ?_
  refine v_iconst C.1 0 rfl 50 rfl dX5_init_49 ?_
  refine v_put C.1 7 fp_X5_40 rfl rfl ((hB.2.2.1 0 (Nat.le_of_ble_eq_true rfl)).1) 53 rfl dX5_init_50 ?_
  have hB : Blk G σ (pV _ a 7 (.int 0)) _ _ _ _ := hB.put (i := 0) (Nat.le_of_ble_eq_true rfl) 7 (.int 0)
  generalize pV _ a 7 (.int 0) = σ10 at hB ⊢
  refine v_aload_n C.1 0 54 rfl dX5_init_53 rfl ?_
  refine v_iconst C.1 0 rfl 55 rfl dX5_init_54 ?_
  refine v_put C.1 8 fp_X5_43 rfl rfl ((hB.2.2.1 0 (Nat.le_of_ble_eq_true rfl)).1) 58 rfl dX5_init_55 ?_
  have hB : Blk G σ (pV _ a 8 (.int 0)) _ _ _ _ := hB.put (i := 0) (Nat.le_of_ble_eq_true rfl) 8 (.int 0)
  generalize pV _ a 8 (.int 0) = σ11 at hB ⊢
  refine v_aload_n C.1 0 59 rfl dX5_init_58 rfl ?_
  refine v_iconst C.1 0 rfl 60 rfl dX5_init_59 ?_
  refine v_put C.1 9 fp_X5_46 rfl rfl ((hB.2.2.1 0 (Nat.le_of_ble_eq_true rfl)).1) 63 rfl dX5_init_60 ?_
  have hB : Blk G σ (pV _ a 9 (.int 0)) _ _ _ _ := hB.put (i := 0) (Nat.le_of_ble_eq_true rfl) 9 (.int 0)
  generalize pV _ a 9 (.int 0) = σ12 at hB ⊢
  refine v_aload_n C.1 0 64 rfl dX5_init_63 rfl ?_
  refine v_iconst C.1 0 rfl 65 rfl dX5_init_64 ?_
  refine v_put C.1 10 fp_X5_49 rfl rfl ((hB.2.2.1 0 (Nat.le_of_ble_eq_true rfl)).1) 68 rfl dX5_init_65 ?_
  have hB : Blk G σ (pV _ a 10 (.int 0)) _ _ _ _ := hB.put (i := 0) (Nat.le_of_ble_eq_true rfl) 10 (.int 0)
  generalize pV _ a 10 (.int 0) = σ13 at hB ⊢
  refine v_iconst C.1 0 rfl 69 rfl dX5_init_68 ?_
  refine v_istore_n C.1 (lv' := [(0, .ref a), (1, .int 0)]) [1, 0] 70 rfl dX5_init_69 (Nat.le_of_ble_eq_true rfl) rfl ?_
  have hB := hB.to (f' := _) (S' := wS) (V' := _) (fun _ _ => rfl) (fun i hi => ?_) (fun _ _ _ => rfl)
  · refine wroom_custs C hG ho 5 0 _ _ _ (by omega) rfl hB ⟨rfl, rfl, rfl, rfl, fun k k1 k2 => ?_, fun _ => rfl⟩ (fun c hc => absurd hc (Nat.not_lt_zero _))
    have hc : k = 4 ∨ k = 5 ∨ k = 6 ∨ k = 7 ∨ k = 8 ∨ k = 9 ∨ k = 10 := by omega
    rcases hc with z | z | z | z | z | z | z <;> subst z <;> rfl
  · have hc : i = 0 ∨ i = 1 ∨ i = 2 ∨ i = 3 := by omega
    rcases hc with z | z | z | z <;> subst z <;> rfl
