/-! ===== the simple constructors ===== -/
theorem v_aload_n {F : jFm} {own : String} {cc : ByteArray} {nL k1 k2 fr mc ms lo pc : Nat} {σ : jH} {lv : List (Nat × Value)} {st : List Value} (C : jA F own cc nL fr mc ms lo) {i : Fin 4} (j : Nat) {x : Nat} (p1 : Nat) (hp : pc + 1 = p1) (hd : decode cc pc = .ok (.aload_n i, 1)) (hl : lv[j]? = some ((i : Nat), .ref x)) (kk : jV F nL k1 k2 σ p1 lv (.ref x :: st)) : jV F nL k1 k2 σ pc lv st := r_aload_n (jA_set C σ.1) j p1 hp hd hl kk
theorem v_iload_n {F : jFm} {own : String} {cc : ByteArray} {nL k1 k2 fr mc ms lo pc : Nat} {σ : jH} {lv : List (Nat × Value)} {st : List Value} (C : jA F own cc nL fr mc ms lo) {i : Fin 4} (j : Nat) {x : Int32} (p1 : Nat) (hp : pc + 1 = p1) (hd : decode cc pc = .ok (.iload_n i, 1)) (hl : lv[j]? = some ((i : Nat), .int x)) (kk : jV F nL k1 k2 σ p1 lv (.int x :: st)) : jV F nL k1 k2 σ pc lv st := r_iload_n (jA_set C σ.1) j p1 hp hd hl kk
theorem v_iconst {F : jFm} {own : String} {cc : ByteArray} {nL k1 k2 fr mc ms lo pc : Nat} {σ : jH} {lv : List (Nat × Value)} {st : List Value} (C : jA F own cc nL fr mc ms lo) {n : Int} (v : Int32) (hv : Int32.ofInt n = v) (p1 : Nat) (hp : pc + 1 = p1) (hd : decode cc pc = .ok (.iconst n, 1)) (kk : jV F nL k1 k2 σ p1 lv (.int v :: st)) : jV F nL k1 k2 σ pc lv st := r_iconst (jA_set C σ.1) v hv p1 hp hd kk
theorem v_bipush {F : jFm} {own : String} {cc : ByteArray} {nL k1 k2 fr mc ms lo pc : Nat} {σ : jH} {lv : List (Nat × Value)} {st : List Value} (C : jA F own cc nL fr mc ms lo) {n : Int} (v : Int32) (hv : (Int8.ofInt n).toInt32 = v) (p1 : Nat) (hp : pc + 2 = p1) (hd : decode cc pc = .ok (.bipush n, 2)) (kk : jV F nL k1 k2 σ p1 lv (.int v :: st)) : jV F nL k1 k2 σ pc lv st := r_bipush (jA_set C σ.1) v hv p1 hp hd kk
theorem v_sipush {F : jFm} {own : String} {cc : ByteArray} {nL k1 k2 fr mc ms lo pc : Nat} {σ : jH} {lv : List (Nat × Value)} {st : List Value} (C : jA F own cc nL fr mc ms lo) {n : Int} (v : Int32) (hv : (Int16.ofInt n).toInt32 = v) (p1 : Nat) (hp : pc + 3 = p1) (hd : decode cc pc = .ok (.sipush n, 3)) (kk : jV F nL k1 k2 σ p1 lv (.int v :: st)) : jV F nL k1 k2 σ pc lv st := r_sipush (jA_set C σ.1) v hv p1 hp hd kk
theorem v_dup {F : jFm} {own : String} {cc : ByteArray} {nL k1 k2 fr mc ms lo pc : Nat} {σ : jH} {lv : List (Nat × Value)} {st : List Value} (C : jA F own cc nL fr mc ms lo) {v : Value} (hv : v.category = 1) (p1 : Nat) (hp : pc + 1 = p1) (hd : decode cc pc = .ok (.dup, 1)) (kk : jV F nL k1 k2 σ p1 lv (v :: v :: st)) : jV F nL k1 k2 σ pc lv (v :: st) := r_dup (jA_set C σ.1) hv p1 hp hd kk
theorem v_goto {F : jFm} {own : String} {cc : ByteArray} {nL k1 k2 fr mc ms lo pc : Nat} {σ : jH} {lv : List (Nat × Value)} {st : List Value} (C : jA F own cc nL fr mc ms lo) {off : Int} (tgt : Nat) (hd : decode cc pc = .ok (.goto off, 3)) (ht : (pc : Int) + off = (tgt : Int)) (kk : jV F nL k1 k2 σ tgt lv st) : jV F nL k1 k2 σ pc lv st := r_goto (jA_set C σ.1) tgt hd ht kk
theorem v_icmp_ge {F : jFm} {own : String} {cc : ByteArray} {nL k1 k2 fr mc ms lo pc : Nat} {σ : jH} {lv : List (Nat × Value)} {st : List Value} (C : jA F own cc nL fr mc ms lo) {x y : Int32} {off : Int} (tgt : Nat) (p1 : Nat) (hp : pc + 3 = p1) (hd : decode cc pc = .ok (.if_icmp .ge off, 3)) (ht : (pc : Int) + off = (tgt : Int)) (kk : (y ≤ x → jV F nL k1 k2 σ tgt lv st) ∧ (¬ y ≤ x → jV F nL k1 k2 σ p1 lv st)) : jV F nL k1 k2 σ pc lv (.int y :: .int x :: st) := r_icmp_ge (jA_set C σ.1) tgt p1 hp hd ht kk
theorem v_istore_n {F : jFm} {own : String} {cc : ByteArray} {nL k1 k2 fr mc ms lo pc : Nat} {σ : jH} {lv : List (Nat × Value)} {st : List Value} (C : jA F own cc nL fr mc ms lo) {lv' : List (Nat × Value)} {i : Fin 4} {x : Int32} (ks : List Nat) (p1 : Nat) (hp : pc + 1 = p1) (hd : decode cc pc = .ok (.istore_n i, 1)) (hn : (i : Nat) < nL) (hk : lv_pick (((i : Nat), Value.int x) :: lv.filter (fun q => !(q.1 == (i : Nat)) && !(q.1 + 1 == (i : Nat) && q.2.category == 2))) ks = lv') (kk : jV F nL k1 k2 σ p1 lv' st) : jV F nL k1 k2 σ pc lv (.int x :: st) := r_istore_n (jA_set C σ.1) ks p1 hp hd hn hk kk
theorem v_iinc {F : jFm} {own : String} {cc : ByteArray} {nL k1 k2 fr mc ms lo pc : Nat} {σ : jH} {lv : List (Nat × Value)} {st : List Value} (C : jA F own cc nL fr mc ms lo) {lv' : List (Nat × Value)} {i : Nat} (j : Nat) {n : Int} {x v : Int32} (ks : List Nat) (p1 : Nat) (hp : pc + 3 = p1) (hd : decode cc pc = .ok (.iinc i n, 3)) (hl : lv[j]? = some (i, .int x)) (hn : i < nL) (hw : x + Int32.ofInt n = v) (hk : lv_pick ((i, Value.int v) :: lv.filter (fun q => !(q.1 == i) && !(q.1 + 1 == i && q.2.category == 2))) ks = lv') (kk : jV F nL k1 k2 σ p1 lv' st) : jV F nL k1 k2 σ pc lv st := r_iinc (jA_set C σ.1) j ks p1 hp hd hl hn hw hk kk
theorem ar_0 : Cond.arrayClass (j_aty 0) ∈ TB := (TB_in (by decide +kernel) (by decide +kernel))
theorem ar_1 : Cond.arrayClass (j_aty 1) ∈ TB := (TB_in (by decide +kernel) (by decide +kernel))
theorem ar_2 : Cond.arrayClass (j_aty 2) ∈ TB := (TB_in (by decide +kernel) (by decide +kernel))
theorem ar_3 : Cond.arrayClass (j_aty 3) ∈ TB := (TB_in (by decide +kernel) (by decide +kernel))
theorem ar_4 : Cond.arrayClass (j_aty 4) ∈ TB := (TB_in (by decide +kernel) (by decide +kernel))
theorem oi_l_RX0 : Cond.methodLink RX0 3 Lib.objectInit ∈ TB := (TB_in (by decide +kernel) (by decide +kernel))
theorem oi_i : Cond.instanceMethod Lib.objectInit ∈ TB := (TB_in (by decide +kernel) (by decide +kernel))
theorem oi_c : Cond.code Lib.objectInit ⟨#[0xb1]⟩ 1 none ∈ TB := (TB_in (by decide +kernel) (by decide +kernel))
theorem fp_X0_9 : jFlw RX0 9 4 2 0 .int := ⟨RX0, TX0, tyX0, rfl, in_X0, tyX0_ok, nmX0, by decide, rfl, rfl, Or.inl (TB_in (by decide +kernel) (by decide +kernel))⟩
theorem fp_X0_15 : jFlf RX0 15 4 2 1 (.array .int) := ⟨TX0, tyX0, rfl, in_X0, tyX0_ok, nmX0, by decide, rfl, rfl, rfl, (TB_in (by decide +kernel) (by decide +kernel))⟩
def s_X0 : Nat → Nat × Nat × Nat := (fun i => if i = 0 then (1, 4, 2) else (2, 0, 16))
theorem c_X0_init {l : Launch} {G : jG} {σ : jH} {a : Nat} (h : σ.1 a = (3, 4, 2)) : jM l G yX0_init cX0_init 1 none 1 1 16 12 [.ref a] σ (fun r σ' => r = none ∧ ∃ f V, f 0 = a ∧ Blk G σ σ' 2 f s_X0 V ∧ V 0 0 = .int 0 ∧ V 0 1 = .ref (f 1) ∧ (∀ k, V 1 k = defaultValue (j_aty 0))) jNo := by
  refine r_body3 (by decide +kernel) rfl (Nat.le_of_ble_eq_true rfl) fun F C hl hG hN ho => ?_
  show jV F _ 0 0 σ 0 [(0, .ref a)] []
  have hB := Blk.one (G := G) h (Or.inr (Or.inr (Or.inl rfl)))
  refine v_aload_n C.1 0 1 rfl dX0_init_0 rfl ?_
  refine v_obj C.1 oi_l_RX0 oi_i oi_c ⟨(Nat.le_of_ble_eq_true rfl), (Nat.le_of_ble_eq_true rfl)⟩ 4 rfl dX0_init_1 ?_
  refine v_aload_n C.1 0 5 rfl dX0_init_4 rfl ?_
  refine v_iconst C.1 0 rfl 6 rfl dX0_init_5 ?_
  refine v_put C.1 0 fp_X0_9 rfl rfl ((hB.2.2.1 0 (Nat.le_of_ble_eq_true rfl)).1) 9 rfl dX0_init_6 ?_
  have hB : Blk G σ (pV _ a 0 (.int 0)) _ _ _ _ := hB.put (i := 0) (Nat.le_of_ble_eq_true rfl) 0 (.int 0)
  generalize pV _ a 0 (.int 0) = σ0 at hB ⊢
  refine v_aload_n C.1 0 10 rfl dX0_init_9 rfl ?_
  refine v_bipush C.1 16 rfl 12 rfl dX0_init_10 ?_
  refine v_newa C.1 (t := 0) (N := 16) (by decide) rfl ar_0 (by decide) rfl (by decide) ⟨(Nat.le_of_ble_eq_true rfl), (Nat.le_of_ble_eq_true rfl)⟩ 1 16 rfl rfl 14 rfl dX0_init_12 fun b1 hn1 => ?_
  rw [hG] at hn1
  have hB := hB.add (d := fun _ => defaultValue (j_aty 0)) hn1 (e := (2, 0, 16)) (Or.inr (Or.inl rfl))
  generalize jMade _ b1 (2, 0, 16) (fun _ => defaultValue (j_aty 0)) = σ1 at hB ⊢
  refine v_putF C.1 hN 1 fp_X0_15 rfl rfl ((hB.2.2.1 0 (Nat.le_of_ble_eq_true rfl)).1) 17 rfl dX0_init_14 ?_
  have hB : Blk G σ (pV _ a 1 (.ref b1)) _ _ _ _ := hB.put (i := 0) (Nat.le_of_ble_eq_true rfl) 1 (.ref b1)
  generalize pV _ a 1 (.ref b1) = σ2 at hB ⊢
  have hP : Blk G σ (jPro _ a (1, 4, 2)) _ _ _ _ := hB.pro (i := 0) (Nat.le_of_ble_eq_true rfl) (e := (1, 4, 2)) (Or.inl rfl)
  refine v_pro ((hB.2.2.1 0 (Nat.le_of_ble_eq_true rfl)).1) (fun j hj => ?_) ?_
  · have hc : j = 0 ∨ j = 1 := by omega
    rcases hc with z | z <;> subst z
    · exact ⟨0, (hB.2.2.1 0 (Nat.le_of_ble_eq_true rfl)).2 0⟩
    · exact ⟨_, (hB.2.2.1 0 (Nat.le_of_ble_eq_true rfl)).2 1, (hP.2.2.1 1 (Nat.le_of_ble_eq_true rfl)).1⟩
  · refine v_vret C (Nat.le_of_ble_eq_true rfl) (Nat.le_of_ble_eq_true rfl) dX0_init_17 ?_
    rw [ho]
    refine ⟨rfl, _, _, rfl, hP.to (fun _ _ => rfl) (fun i hi => ?_) (fun _ _ _ => rfl), rfl, rfl, fun _ => rfl⟩
    have hc : i = 0 ∨ i = 1 := by omega
    rcases hc with z | z <;> subst z <;> rfl
theorem oi_l_RX3 : Cond.methodLink RX3 3 Lib.objectInit ∈ TB := (TB_in (by decide +kernel) (by decide +kernel))
theorem fp_X3_9 : jFlf RX3 9 7 2 0 (.array .int) := ⟨TX3, tyX3, rfl, in_X3, tyX3_ok, nmX3, by decide, rfl, rfl, rfl, (TB_in (by decide +kernel) (by decide +kernel))⟩
theorem fp_X3_15 : jFlw RX3 15 7 2 1 .int := ⟨RX3, TX3, tyX3, rfl, in_X3, tyX3_ok, nmX3, by decide, rfl, rfl, Or.inl (TB_in (by decide +kernel) (by decide +kernel))⟩
def s_X3 : Nat → Nat × Nat × Nat := (fun i => if i = 0 then (1, 7, 2) else (2, 0, 16))
theorem c_X3_init {l : Launch} {G : jG} {σ : jH} {a : Nat} (h : σ.1 a = (3, 7, 2)) : jM l G yX3_init cX3_init 1 none 1 1 16 12 [.ref a] σ (fun r σ' => r = none ∧ ∃ f V, f 0 = a ∧ Blk G σ σ' 2 f s_X3 V ∧ V 0 0 = .ref (f 1) ∧ V 0 1 = .int 0 ∧ (∀ k, V 1 k = defaultValue (j_aty 0))) jNo := by
  refine r_body3 (by decide +kernel) rfl (Nat.le_of_ble_eq_true rfl) fun F C hl hG hN ho => ?_
  show jV F _ 0 0 σ 0 [(0, .ref a)] []
  have hB := Blk.one (G := G) h (Or.inr (Or.inr (Or.inl rfl)))
  refine v_aload_n C.1 0 1 rfl dX3_init_0 rfl ?_
  refine v_obj C.1 oi_l_RX3 oi_i oi_c ⟨(Nat.le_of_ble_eq_true rfl), (Nat.le_of_ble_eq_true rfl)⟩ 4 rfl dX3_init_1 ?_
  refine v_aload_n C.1 0 5 rfl dX3_init_4 rfl ?_
  refine v_bipush C.1 16 rfl 7 rfl dX3_init_5 ?_
  refine v_newa C.1 (t := 0) (N := 16) (by decide) rfl ar_0 (by decide) rfl (by decide) ⟨(Nat.le_of_ble_eq_true rfl), (Nat.le_of_ble_eq_true rfl)⟩ 1 16 rfl rfl 9 rfl dX3_init_7 fun b1 hn1 => ?_
  rw [hG] at hn1
  have hB := hB.add (d := fun _ => defaultValue (j_aty 0)) hn1 (e := (2, 0, 16)) (Or.inr (Or.inl rfl))
  generalize jMade _ b1 (2, 0, 16) (fun _ => defaultValue (j_aty 0)) = σ0 at hB ⊢
  refine v_putF C.1 hN 0 fp_X3_9 rfl rfl ((hB.2.2.1 0 (Nat.le_of_ble_eq_true rfl)).1) 12 rfl dX3_init_9 ?_
  have hB : Blk G σ (pV _ a 0 (.ref b1)) _ _ _ _ := hB.put (i := 0) (Nat.le_of_ble_eq_true rfl) 0 (.ref b1)
  generalize pV _ a 0 (.ref b1) = σ1 at hB ⊢
  refine v_aload_n C.1 0 13 rfl dX3_init_12 rfl ?_
  refine v_iconst C.1 0 rfl 14 rfl dX3_init_13 ?_
  refine v_put C.1 1 fp_X3_15 rfl rfl ((hB.2.2.1 0 (Nat.le_of_ble_eq_true rfl)).1) 17 rfl dX3_init_14 ?_
  have hB : Blk G σ (pV _ a 1 (.int 0)) _ _ _ _ := hB.put (i := 0) (Nat.le_of_ble_eq_true rfl) 1 (.int 0)
  generalize pV _ a 1 (.int 0) = σ2 at hB ⊢
  have hP : Blk G σ (jPro _ a (1, 7, 2)) _ _ _ _ := hB.pro (i := 0) (Nat.le_of_ble_eq_true rfl) (e := (1, 7, 2)) (Or.inl rfl)
  refine v_pro ((hB.2.2.1 0 (Nat.le_of_ble_eq_true rfl)).1) (fun j hj => ?_) ?_
  · have hc : j = 0 ∨ j = 1 := by omega
    rcases hc with z | z <;> subst z
    · exact ⟨_, (hB.2.2.1 0 (Nat.le_of_ble_eq_true rfl)).2 0, (hP.2.2.1 1 (Nat.le_of_ble_eq_true rfl)).1⟩
    · exact ⟨0, (hB.2.2.1 0 (Nat.le_of_ble_eq_true rfl)).2 1⟩
  · refine v_vret C (Nat.le_of_ble_eq_true rfl) (Nat.le_of_ble_eq_true rfl) dX3_init_17 ?_
    rw [ho]
    refine ⟨rfl, _, _, rfl, hP.to (fun _ _ => rfl) (fun i hi => ?_) (fun _ _ _ => rfl), rfl, rfl, fun _ => rfl⟩
    have hc : i = 0 ∨ i = 1 := by omega
    rcases hc with z | z <;> subst z <;> rfl
theorem oi_l_RX4 : Cond.methodLink RX4 3 Lib.objectInit ∈ TB := (TB_in (by decide +kernel) (by decide +kernel))
theorem fp_X4_9 : jFlw RX4 9 8 8 0 .int := ⟨RX4, TX4, tyX4, rfl, in_X4, tyX4_ok, nmX4, by decide, rfl, rfl, Or.inl (TB_in (by decide +kernel) (by decide +kernel))⟩
theorem fp_X4_15 : jFlw RX4 15 8 8 1 .int := ⟨RX4, TX4, tyX4, rfl, in_X4, tyX4_ok, nmX4, by decide, rfl, rfl, Or.inl (TB_in (by decide +kernel) (by decide +kernel))⟩
theorem fp_X4_18 : jFlw RX4 18 8 8 2 .int := ⟨RX4, TX4, tyX4, rfl, in_X4, tyX4_ok, nmX4, by decide, rfl, rfl, Or.inl (TB_in (by decide +kernel) (by decide +kernel))⟩
theorem fp_X4_21 : jFlw RX4 21 8 8 3 .int := ⟨RX4, TX4, tyX4, rfl, in_X4, tyX4_ok, nmX4, by decide, rfl, rfl, Or.inl (TB_in (by decide +kernel) (by decide +kernel))⟩
theorem fp_X4_24 : jFlw RX4 24 8 8 4 .int := ⟨RX4, TX4, tyX4, rfl, in_X4, tyX4_ok, nmX4, by decide, rfl, rfl, Or.inl (TB_in (by decide +kernel) (by decide +kernel))⟩
theorem fp_X4_27 : jFlf RX4 27 8 8 5 (.array .char) := ⟨TX4, tyX4, rfl, in_X4, tyX4_ok, nmX4, by decide, rfl, rfl, rfl, (TB_in (by decide +kernel) (by decide +kernel))⟩
theorem fp_X4_31 : jFlf RX4 31 8 8 6 (.array .int) := ⟨TX4, tyX4, rfl, in_X4, tyX4_ok, nmX4, by decide, rfl, rfl, rfl, (TB_in (by decide +kernel) (by decide +kernel))⟩
theorem fp_X4_35 : jFlf RX4 35 8 8 7 (.array .int) := ⟨TX4, tyX4, rfl, in_X4, tyX4_ok, nmX4, by decide, rfl, rfl, rfl, (TB_in (by decide +kernel) (by decide +kernel))⟩
def s_X4 : Nat → Nat × Nat × Nat := (fun i => if i = 0 then (1, 8, 8) else if i = 1 then (2, 1, 16) else if i = 2 then (2, 0, 16) else (2, 0, 16))
theorem c_X4_init {l : Launch} {G : jG} {σ : jH} {a : Nat} (h : σ.1 a = (3, 8, 8)) : jM l G yX4_init cX4_init 1 none 1 3 48 12 [.ref a] σ (fun r σ' => r = none ∧ ∃ f V, f 0 = a ∧ Blk G σ σ' 4 f s_X4 V ∧ V 0 0 = .int 0 ∧ V 0 1 = .int 0 ∧ V 0 2 = .int 0 ∧ V 0 3 = .int 0 ∧ V 0 4 = .int 0 ∧ V 0 5 = .ref (f 1) ∧ V 0 6 = .ref (f 2) ∧ V 0 7 = .ref (f 3) ∧ (∀ k, V 1 k = defaultValue (j_aty 1)) ∧ (∀ k, V 2 k = defaultValue (j_aty 0)) ∧ (∀ k, V 3 k = defaultValue (j_aty 0))) jNo := by
  refine r_body3 (by decide +kernel) rfl (Nat.le_of_ble_eq_true rfl) fun F C hl hG hN ho => ?_
  show jV F _ 0 0 σ 0 [(0, .ref a)] []
  have hB := Blk.one (G := G) h (Or.inr (Or.inr (Or.inl rfl)))
  refine v_aload_n C.1 0 1 rfl dX4_init_0 rfl ?_
  refine v_obj C.1 oi_l_RX4 oi_i oi_c ⟨(Nat.le_of_ble_eq_true rfl), (Nat.le_of_ble_eq_true rfl)⟩ 4 rfl dX4_init_1 ?_
  refine v_aload_n C.1 0 5 rfl dX4_init_4 rfl ?_
  refine v_iconst C.1 0 rfl 6 rfl dX4_init_5 ?_
  refine v_put C.1 0 fp_X4_9 rfl rfl ((hB.2.2.1 0 (Nat.le_of_ble_eq_true rfl)).1) 9 rfl dX4_init_6 ?_
  have hB : Blk G σ (pV _ a 0 (.int 0)) _ _ _ _ := hB.put (i := 0) (Nat.le_of_ble_eq_true rfl) 0 (.int 0)
  generalize pV _ a 0 (.int 0) = σ0 at hB ⊢
  refine v_aload_n C.1 0 10 rfl dX4_init_9 rfl ?_
  refine v_iconst C.1 0 rfl 11 rfl dX4_init_10 ?_
  refine v_put C.1 1 fp_X4_15 rfl rfl ((hB.2.2.1 0 (Nat.le_of_ble_eq_true rfl)).1) 14 rfl dX4_init_11 ?_
  have hB : Blk G σ (pV _ a 1 (.int 0)) _ _ _ _ := hB.put (i := 0) (Nat.le_of_ble_eq_true rfl) 1 (.int 0)
  generalize pV _ a 1 (.int 0) = σ1 at hB ⊢
  refine v_aload_n C.1 0 15 rfl dX4_init_14 rfl ?_
  refine v_iconst C.1 0 rfl 16 rfl dX4_init_15 ?_
  refine v_put C.1 2 fp_X4_18 rfl rfl ((hB.2.2.1 0 (Nat.le_of_ble_eq_true rfl)).1) 19 rfl dX4_init_16 ?_
  have hB : Blk G σ (pV _ a 2 (.int 0)) _ _ _ _ := hB.put (i := 0) (Nat.le_of_ble_eq_true rfl) 2 (.int 0)
  generalize pV _ a 2 (.int 0) = σ2 at hB ⊢
  refine v_aload_n C.1 0 20 rfl dX4_init_19 rfl ?_
  refine v_iconst C.1 0 rfl 21 rfl dX4_init_20 ?_
  refine v_put C.1 3 fp_X4_21 rfl rfl ((hB.2.2.1 0 (Nat.le_of_ble_eq_true rfl)).1) 24 rfl dX4_init_21 ?_
  have hB : Blk G σ (pV _ a 3 (.int 0)) _ _ _ _ := hB.put (i := 0) (Nat.le_of_ble_eq_true rfl) 3 (.int 0)
  generalize pV _ a 3 (.int 0) = σ3 at hB ⊢
  refine v_aload_n C.1 0 25 rfl dX4_init_24 rfl ?_
  refine v_iconst C.1 0 rfl 26 rfl dX4_init_25 ?_
  refine v_put C.1 4 fp_X4_24 rfl rfl ((hB.2.2.1 0 (Nat.le_of_ble_eq_true rfl)).1) 29 rfl dX4_init_26 ?_
  have hB : Blk G σ (pV _ a 4 (.int 0)) _ _ _ _ := hB.put (i := 0) (Nat.le_of_ble_eq_true rfl) 4 (.int 0)
  generalize pV _ a 4 (.int 0) = σ4 at hB ⊢
  refine v_aload_n C.1 0 30 rfl dX4_init_29 rfl ?_
  refine v_bipush C.1 16 rfl 32 rfl dX4_init_30 ?_
  refine v_newa C.1 (t := 1) (N := 16) (by decide) rfl ar_1 (by decide) rfl (by decide) ⟨(Nat.le_of_ble_eq_true rfl), (Nat.le_of_ble_eq_true rfl)⟩ 1 16 rfl rfl 34 rfl dX4_init_32 fun b1 hn1 => ?_
  rw [hG] at hn1
  have hB := hB.add (d := fun _ => defaultValue (j_aty 1)) hn1 (e := (2, 1, 16)) (Or.inr (Or.inl rfl))
  generalize jMade _ b1 (2, 1, 16) (fun _ => defaultValue (j_aty 1)) = σ5 at hB ⊢
  refine v_putF C.1 hN 5 fp_X4_27 rfl rfl ((hB.2.2.1 0 (Nat.le_of_ble_eq_true rfl)).1) 37 rfl dX4_init_34 ?_
  have hB : Blk G σ (pV _ a 5 (.ref b1)) _ _ _ _ := hB.put (i := 0) (Nat.le_of_ble_eq_true rfl) 5 (.ref b1)
  generalize pV _ a 5 (.ref b1) = σ6 at hB ⊢
  refine v_aload_n C.1 0 38 rfl dX4_init_37 rfl ?_
  refine v_bipush C.1 16 rfl 40 rfl dX4_init_38 ?_
  refine v_newa C.1 (t := 0) (N := 16) (by decide) rfl ar_0 (by decide) rfl (by decide) ⟨(Nat.le_of_ble_eq_true rfl), (Nat.le_of_ble_eq_true rfl)⟩ 2 32 rfl rfl 42 rfl dX4_init_40 fun b2 hn2 => ?_
  rw [hG] at hn2
  have hB := hB.add (d := fun _ => defaultValue (j_aty 0)) hn2 (e := (2, 0, 16)) (Or.inr (Or.inl rfl))
  generalize jMade _ b2 (2, 0, 16) (fun _ => defaultValue (j_aty 0)) = σ7 at hB ⊢
  refine v_putF C.1 hN 6 fp_X4_31 rfl rfl ((hB.2.2.1 0 (Nat.le_of_ble_eq_true rfl)).1) 45 rfl dX4_init_42 ?_
  have hB : Blk G σ (pV _ a 6 (.ref b2)) _ _ _ _ := hB.put (i := 0) (Nat.le_of_ble_eq_true rfl) 6 (.ref b2)
  generalize pV _ a 6 (.ref b2) = σ8 at hB ⊢
  refine v_aload_n C.1 0 46 rfl dX4_init_45 rfl ?_
  refine v_bipush C.1 16 rfl 48 rfl dX4_init_46 ?_
  refine v_newa C.1 (t := 0) (N := 16) (by decide) rfl ar_0 (by decide) rfl (by decide) ⟨(Nat.le_of_ble_eq_true rfl), (Nat.le_of_ble_eq_true rfl)⟩ 3 48 rfl rfl 50 rfl dX4_init_48 fun b3 hn3 => ?_
  rw [hG] at hn3
  have hB := hB.add (d := fun _ => defaultValue (j_aty 0)) hn3 (e := (2, 0, 16)) (Or.inr (Or.inl rfl))
  generalize jMade _ b3 (2, 0, 16) (fun _ => defaultValue (j_aty 0)) = σ9 at hB ⊢
  refine v_putF C.1 hN 7 fp_X4_35 rfl rfl ((hB.2.2.1 0 (Nat.le_of_ble_eq_true rfl)).1) 53 rfl dX4_init_50 ?_
  have hB : Blk G σ (pV _ a 7 (.ref b3)) _ _ _ _ := hB.put (i := 0) (Nat.le_of_ble_eq_true rfl) 7 (.ref b3)
  generalize pV _ a 7 (.ref b3) = σ10 at hB ⊢
  have hP : Blk G σ (jPro _ a (1, 8, 8)) _ _ _ _ := hB.pro (i := 0) (Nat.le_of_ble_eq_true rfl) (e := (1, 8, 8)) (Or.inl rfl)
  refine v_pro ((hB.2.2.1 0 (Nat.le_of_ble_eq_true rfl)).1) (fun j hj => ?_) ?_
  · have hc : j = 0 ∨ j = 1 ∨ j = 2 ∨ j = 3 ∨ j = 4 ∨ j = 5 ∨ j = 6 ∨ j = 7 := by omega
    rcases hc with z | z | z | z | z | z | z | z <;> subst z
    · exact ⟨0, (hB.2.2.1 0 (Nat.le_of_ble_eq_true rfl)).2 0⟩
    · exact ⟨0, (hB.2.2.1 0 (Nat.le_of_ble_eq_true rfl)).2 1⟩
    · exact ⟨0, (hB.2.2.1 0 (Nat.le_of_ble_eq_true rfl)).2 2⟩
    · exact ⟨0, (hB.2.2.1 0 (Nat.le_of_ble_eq_true rfl)).2 3⟩
    · exact ⟨0, (hB.2.2.1 0 (Nat.le_of_ble_eq_true rfl)).2 4⟩
    · exact ⟨_, (hB.2.2.1 0 (Nat.le_of_ble_eq_true rfl)).2 5, (hP.2.2.1 1 (Nat.le_of_ble_eq_true rfl)).1⟩
    · exact ⟨_, (hB.2.2.1 0 (Nat.le_of_ble_eq_true rfl)).2 6, (hP.2.2.1 2 (Nat.le_of_ble_eq_true rfl)).1⟩
    · exact ⟨_, (hB.2.2.1 0 (Nat.le_of_ble_eq_true rfl)).2 7, (hP.2.2.1 3 (Nat.le_of_ble_eq_true rfl)).1⟩
  · refine v_vret C (Nat.le_of_ble_eq_true rfl) (Nat.le_of_ble_eq_true rfl) dX4_init_53 ?_
    rw [ho]
    refine ⟨rfl, _, _, rfl, hP.to (fun _ _ => rfl) (fun i hi => ?_) (fun _ _ _ => rfl), rfl, rfl, rfl, rfl, rfl, rfl, rfl, rfl, fun _ => rfl, fun _ => rfl, fun _ => rfl⟩
    have hc : i = 0 ∨ i = 1 ∨ i = 2 ∨ i = 3 := by omega
    rcases hc with z | z | z | z <;> subst z <;> rfl
theorem oi_l_RX2 : Cond.methodLink RX2 3 Lib.objectInit ∈ TB := (TB_in (by decide +kernel) (by decide +kernel))
theorem fp_X2_9 : jFlf RX2 9 6 5 0 (.array .char) := ⟨TX2, tyX2, rfl, in_X2, tyX2_ok, nmX2, by decide, rfl, rfl, rfl, (TB_in (by decide +kernel) (by decide +kernel))⟩
theorem fp_X2_15 : jFlw RX2 15 6 5 1 .int := ⟨RX2, TX2, tyX2, rfl, in_X2, tyX2_ok, nmX2, by decide, rfl, rfl, Or.inl (TB_in (by decide +kernel) (by decide +kernel))⟩
theorem fp_X2_19 : jFlf RX2 19 6 5 2 (.array .int) := ⟨TX2, tyX2, rfl, in_X2, tyX2_ok, nmX2, by decide, rfl, rfl, rfl, (TB_in (by decide +kernel) (by decide +kernel))⟩
theorem fp_X2_23 : jFlf RX2 23 6 5 3 (.array .int) := ⟨TX2, tyX2, rfl, in_X2, tyX2_ok, nmX2, by decide, rfl, rfl, rfl, (TB_in (by decide +kernel) (by decide +kernel))⟩
theorem fp_X2_26 : jFlw RX2 26 6 5 4 .int := ⟨RX2, TX2, tyX2, rfl, in_X2, tyX2_ok, nmX2, by decide, rfl, rfl, Or.inl (TB_in (by decide +kernel) (by decide +kernel))⟩
def s_X2 : Nat → Nat × Nat × Nat := (fun i => if i = 0 then (1, 6, 5) else if i = 1 then (2, 1, 60) else if i = 2 then (2, 0, 60) else (2, 0, 180))
theorem c_X2_init {l : Launch} {G : jG} {σ : jH} {a : Nat} (h : σ.1 a = (3, 6, 5)) : jM l G yX2_init cX2_init 1 none 1 3 300 12 [.ref a] σ (fun r σ' => r = none ∧ ∃ f V, f 0 = a ∧ Blk G σ σ' 4 f s_X2 V ∧ V 0 0 = .ref (f 1) ∧ V 0 1 = .int 0 ∧ V 0 2 = .ref (f 2) ∧ V 0 3 = .ref (f 3) ∧ V 0 4 = .int 0 ∧ (∀ k, V 1 k = defaultValue (j_aty 1)) ∧ (∀ k, V 2 k = defaultValue (j_aty 0)) ∧ (∀ k, V 3 k = defaultValue (j_aty 0))) jNo := by
  refine r_body3 (by decide +kernel) rfl (Nat.le_of_ble_eq_true rfl) fun F C hl hG hN ho => ?_
  show jV F _ 0 0 σ 0 [(0, .ref a)] []
  have hB := Blk.one (G := G) h (Or.inr (Or.inr (Or.inl rfl)))
  refine v_aload_n C.1 0 1 rfl dX2_init_0 rfl ?_
  refine v_obj C.1 oi_l_RX2 oi_i oi_c ⟨(Nat.le_of_ble_eq_true rfl), (Nat.le_of_ble_eq_true rfl)⟩ 4 rfl dX2_init_1 ?_
  refine v_aload_n C.1 0 5 rfl dX2_init_4 rfl ?_
  refine v_bipush C.1 60 rfl 7 rfl dX2_init_5 ?_
  refine v_newa C.1 (t := 1) (N := 60) (by decide) rfl ar_1 (by decide) rfl (by decide) ⟨(Nat.le_of_ble_eq_true rfl), (Nat.le_of_ble_eq_true rfl)⟩ 1 60 rfl rfl 9 rfl dX2_init_7 fun b1 hn1 => ?_
  rw [hG] at hn1
  have hB := hB.add (d := fun _ => defaultValue (j_aty 1)) hn1 (e := (2, 1, 60)) (Or.inr (Or.inl rfl))
  generalize jMade _ b1 (2, 1, 60) (fun _ => defaultValue (j_aty 1)) = σ0 at hB ⊢
  refine v_putF C.1 hN 0 fp_X2_9 rfl rfl ((hB.2.2.1 0 (Nat.le_of_ble_eq_true rfl)).1) 12 rfl dX2_init_9 ?_
  have hB : Blk G σ (pV _ a 0 (.ref b1)) _ _ _ _ := hB.put (i := 0) (Nat.le_of_ble_eq_true rfl) 0 (.ref b1)
  generalize pV _ a 0 (.ref b1) = σ1 at hB ⊢
  refine v_aload_n C.1 0 13 rfl dX2_init_12 rfl ?_
  refine v_iconst C.1 0 rfl 14 rfl dX2_init_13 ?_
  refine v_put C.1 1 fp_X2_15 rfl rfl ((hB.2.2.1 0 (Nat.le_of_ble_eq_true rfl)).1) 17 rfl dX2_init_14 ?_
  have hB : Blk G σ (pV _ a 1 (.int 0)) _ _ _ _ := hB.put (i := 0) (Nat.le_of_ble_eq_true rfl) 1 (.int 0)
  generalize pV _ a 1 (.int 0) = σ2 at hB ⊢
  refine v_aload_n C.1 0 18 rfl dX2_init_17 rfl ?_
  refine v_bipush C.1 60 rfl 20 rfl dX2_init_18 ?_
  refine v_newa C.1 (t := 0) (N := 60) (by decide) rfl ar_0 (by decide) rfl (by decide) ⟨(Nat.le_of_ble_eq_true rfl), (Nat.le_of_ble_eq_true rfl)⟩ 2 120 rfl rfl 22 rfl dX2_init_20 fun b2 hn2 => ?_
  rw [hG] at hn2
  have hB := hB.add (d := fun _ => defaultValue (j_aty 0)) hn2 (e := (2, 0, 60)) (Or.inr (Or.inl rfl))
  generalize jMade _ b2 (2, 0, 60) (fun _ => defaultValue (j_aty 0)) = σ3 at hB ⊢
  refine v_putF C.1 hN 2 fp_X2_19 rfl rfl ((hB.2.2.1 0 (Nat.le_of_ble_eq_true rfl)).1) 25 rfl dX2_init_22 ?_
  have hB : Blk G σ (pV _ a 2 (.ref b2)) _ _ _ _ := hB.put (i := 0) (Nat.le_of_ble_eq_true rfl) 2 (.ref b2)
  generalize pV _ a 2 (.ref b2) = σ4 at hB ⊢
  refine v_aload_n C.1 0 26 rfl dX2_init_25 rfl ?_
  refine v_sipush C.1 180 rfl 29 rfl dX2_init_26 ?_
  refine v_newa C.1 (t := 0) (N := 180) (by decide) rfl ar_0 (by decide) rfl (by decide) ⟨(Nat.le_of_ble_eq_true rfl), (Nat.le_of_ble_eq_true rfl)⟩ 3 300 rfl rfl 31 rfl dX2_init_29 fun b3 hn3 => ?_
  rw [hG] at hn3
  have hB := hB.add (d := fun _ => defaultValue (j_aty 0)) hn3 (e := (2, 0, 180)) (Or.inr (Or.inl rfl))
  generalize jMade _ b3 (2, 0, 180) (fun _ => defaultValue (j_aty 0)) = σ5 at hB ⊢
  refine v_putF C.1 hN 3 fp_X2_23 rfl rfl ((hB.2.2.1 0 (Nat.le_of_ble_eq_true rfl)).1) 34 rfl dX2_init_31 ?_
  have hB : Blk G σ (pV _ a 3 (.ref b3)) _ _ _ _ := hB.put (i := 0) (Nat.le_of_ble_eq_true rfl) 3 (.ref b3)
  generalize pV _ a 3 (.ref b3) = σ6 at hB ⊢
  refine v_aload_n C.1 0 35 rfl dX2_init_34 rfl ?_
  refine v_iconst C.1 0 rfl 36 rfl dX2_init_35 ?_
  refine v_put C.1 4 fp_X2_26 rfl rfl ((hB.2.2.1 0 (Nat.le_of_ble_eq_true rfl)).1) 39 rfl dX2_init_36 ?_
  have hB : Blk G σ (pV _ a 4 (.int 0)) _ _ _ _ := hB.put (i := 0) (Nat.le_of_ble_eq_true rfl) 4 (.int 0)
  generalize pV _ a 4 (.int 0) = σ7 at hB ⊢
  have hP : Blk G σ (jPro _ a (1, 6, 5)) _ _ _ _ := hB.pro (i := 0) (Nat.le_of_ble_eq_true rfl) (e := (1, 6, 5)) (Or.inl rfl)
  refine v_pro ((hB.2.2.1 0 (Nat.le_of_ble_eq_true rfl)).1) (fun j hj => ?_) ?_
  · have hc : j = 0 ∨ j = 1 ∨ j = 2 ∨ j = 3 ∨ j = 4 := by omega
    rcases hc with z | z | z | z | z <;> subst z
    · exact ⟨_, (hB.2.2.1 0 (Nat.le_of_ble_eq_true rfl)).2 0, (hP.2.2.1 1 (Nat.le_of_ble_eq_true rfl)).1⟩
    · exact ⟨0, (hB.2.2.1 0 (Nat.le_of_ble_eq_true rfl)).2 1⟩
    · exact ⟨_, (hB.2.2.1 0 (Nat.le_of_ble_eq_true rfl)).2 2, (hP.2.2.1 2 (Nat.le_of_ble_eq_true rfl)).1⟩
    · exact ⟨_, (hB.2.2.1 0 (Nat.le_of_ble_eq_true rfl)).2 3, (hP.2.2.1 3 (Nat.le_of_ble_eq_true rfl)).1⟩
    · exact ⟨0, (hB.2.2.1 0 (Nat.le_of_ble_eq_true rfl)).2 4⟩
  · refine v_vret C (Nat.le_of_ble_eq_true rfl) (Nat.le_of_ble_eq_true rfl) dX2_init_39 ?_
    rw [ho]
    refine ⟨rfl, _, _, rfl, hP.to (fun _ _ => rfl) (fun i hi => ?_) (fun _ _ _ => rfl), rfl, rfl, rfl, rfl, rfl, fun _ => rfl, fun _ => rfl, fun _ => rfl⟩
    have hc : i = 0 ∨ i = 1 ∨ i = 2 ∨ i = 3 := by omega
    rcases hc with z | z | z | z <;> subst z <;> rfl
theorem oi_l_RX1 : Cond.methodLink RX1 3 Lib.objectInit ∈ TB := (TB_in (by decide +kernel) (by decide +kernel))
theorem fp_X1_9 : jFlf RX1 9 5 4 0 (.array .int) := ⟨TX1, tyX1, rfl, in_X1, tyX1_ok, nmX1, by decide, rfl, rfl, rfl, (TB_in (by decide +kernel) (by decide +kernel))⟩
theorem fp_X1_15 : jFlf RX1 15 5 4 1 (.array .int) := ⟨TX1, tyX1, rfl, in_X1, tyX1_ok, nmX1, by decide, rfl, rfl, rfl, (TB_in (by decide +kernel) (by decide +kernel))⟩
theorem fp_X1_18 : jFlf RX1 18 5 4 2 (.array .int) := ⟨TX1, tyX1, rfl, in_X1, tyX1_ok, nmX1, by decide, rfl, rfl, rfl, (TB_in (by decide +kernel) (by decide +kernel))⟩
theorem nw_RX1_21 : jNw RX1 21 7 2 tyX3 := ⟨RX3, TX3, rfl, in_X3, tyX3_ok, (TB_in (by decide +kernel) (by decide +kernel)), (TB_in (by decide +kernel) (by decide +kernel)), (TB_in (by decide +kernel) (by decide +kernel))⟩
theorem mi_RX1_23 : Cond.methodLink RX1 23 yX3_init ∈ TB ∨ ∃ host, Cond.methodLinkNest RX1 23 yX3_init host ∈ TB := Or.inr ⟨"TailorWorkshop", (TB_in (by decide +kernel) (by decide +kernel))⟩
theorem yi_X3 : jYI yX3_init cX3_init 1 0 := ⟨(TB_in (by decide +kernel) (by decide +kernel)), rfl, (TB_in (by decide +kernel) (by decide +kernel)), (TB_in (by decide +kernel) (by decide +kernel)), ⟨by decide +kernel, by decide +kernel⟩, by decide +kernel⟩
theorem fp_X1_24 : jFlf RX1 24 5 4 3 (.object RX3) := ⟨TX1, tyX1, rfl, in_X1, tyX1_ok, nmX1, by decide, rfl, rfl, rfl, (TB_in (by decide +kernel) (by decide +kernel))⟩
def s_X1 : Nat → Nat × Nat × Nat := (fun i => if i = 0 then (1, 5, 4) else if i = 1 then (2, 0, 16) else if i = 2 then (2, 0, 16) else if i = 3 then (2, 0, 16) else if i = 4 then (1, 7, 2) else (2, 0, 16))
theorem c_X1_init {l : Launch} {G : jG} {σ : jH} {a : Nat} (h : σ.1 a = (3, 5, 4)) : jM l G yX1_init cX1_init 1 none 2 5 66 40 [.ref a] σ (fun r σ' => r = none ∧ ∃ f V, f 0 = a ∧ Blk G σ σ' 6 f s_X1 V ∧ V 0 0 = .ref (f 1) ∧ V 0 1 = .ref (f 2) ∧ V 0 2 = .ref (f 3) ∧ V 0 3 = .ref (f 4) ∧ (∀ k, V 1 k = defaultValue (j_aty 0)) ∧ (∀ k, V 2 k = defaultValue (j_aty 0)) ∧ (∀ k, V 3 k = defaultValue (j_aty 0)) ∧ V 4 0 = .ref (f 5) ∧ V 4 1 = .int 0 ∧ (∀ k, V 5 k = defaultValue (j_aty 0))) jNo := by
  refine r_body3 (by decide +kernel) rfl (Nat.le_of_ble_eq_true rfl) fun F C hl hG hN ho => ?_
  show jV F _ 0 0 σ 0 [(0, .ref a)] []
  have hB := Blk.one (G := G) h (Or.inr (Or.inr (Or.inl rfl)))
  refine v_aload_n C.1 0 1 rfl dX1_init_0 rfl ?_
  refine v_obj C.1 oi_l_RX1 oi_i oi_c ⟨(Nat.le_of_ble_eq_true rfl), (Nat.le_of_ble_eq_true rfl)⟩ 4 rfl dX1_init_1 ?_
  refine v_aload_n C.1 0 5 rfl dX1_init_4 rfl ?_
  refine v_bipush C.1 16 rfl 7 rfl dX1_init_5 ?_
  refine v_newa C.1 (t := 0) (N := 16) (by decide) rfl ar_0 (by decide) rfl (by decide) ⟨(Nat.le_of_ble_eq_true rfl), (Nat.le_of_ble_eq_true rfl)⟩ 1 16 rfl rfl 9 rfl dX1_init_7 fun b1 hn1 => ?_
  rw [hG] at hn1
  have hB := hB.add (d := fun _ => defaultValue (j_aty 0)) hn1 (e := (2, 0, 16)) (Or.inr (Or.inl rfl))
  generalize jMade _ b1 (2, 0, 16) (fun _ => defaultValue (j_aty 0)) = σ0 at hB ⊢
  refine v_putF C.1 hN 0 fp_X1_9 rfl rfl ((hB.2.2.1 0 (Nat.le_of_ble_eq_true rfl)).1) 12 rfl dX1_init_9 ?_
  have hB : Blk G σ (pV _ a 0 (.ref b1)) _ _ _ _ := hB.put (i := 0) (Nat.le_of_ble_eq_true rfl) 0 (.ref b1)
  generalize pV _ a 0 (.ref b1) = σ1 at hB ⊢
  refine v_aload_n C.1 0 13 rfl dX1_init_12 rfl ?_
  refine v_bipush C.1 16 rfl 15 rfl dX1_init_13 ?_
  refine v_newa C.1 (t := 0) (N := 16) (by decide) rfl ar_0 (by decide) rfl (by decide) ⟨(Nat.le_of_ble_eq_true rfl), (Nat.le_of_ble_eq_true rfl)⟩ 2 32 rfl rfl 17 rfl dX1_init_15 fun b2 hn2 => ?_
  rw [hG] at hn2
  have hB := hB.add (d := fun _ => defaultValue (j_aty 0)) hn2 (e := (2, 0, 16)) (Or.inr (Or.inl rfl))
  generalize jMade _ b2 (2, 0, 16) (fun _ => defaultValue (j_aty 0)) = σ2 at hB ⊢
  refine v_putF C.1 hN 1 fp_X1_15 rfl rfl ((hB.2.2.1 0 (Nat.le_of_ble_eq_true rfl)).1) 20 rfl dX1_init_17 ?_
  have hB : Blk G σ (pV _ a 1 (.ref b2)) _ _ _ _ := hB.put (i := 0) (Nat.le_of_ble_eq_true rfl) 1 (.ref b2)
  generalize pV _ a 1 (.ref b2) = σ3 at hB ⊢
  refine v_aload_n C.1 0 21 rfl dX1_init_20 rfl ?_
  refine v_bipush C.1 16 rfl 23 rfl dX1_init_21 ?_
  refine v_newa C.1 (t := 0) (N := 16) (by decide) rfl ar_0 (by decide) rfl (by decide) ⟨(Nat.le_of_ble_eq_true rfl), (Nat.le_of_ble_eq_true rfl)⟩ 3 48 rfl rfl 25 rfl dX1_init_23 fun b3 hn3 => ?_
  rw [hG] at hn3
  have hB := hB.add (d := fun _ => defaultValue (j_aty 0)) hn3 (e := (2, 0, 16)) (Or.inr (Or.inl rfl))
  generalize jMade _ b3 (2, 0, 16) (fun _ => defaultValue (j_aty 0)) = σ4 at hB ⊢
  refine v_putF C.1 hN 2 fp_X1_18 rfl rfl ((hB.2.2.1 0 (Nat.le_of_ble_eq_true rfl)).1) 28 rfl dX1_init_25 ?_
  have hB : Blk G σ (pV _ a 2 (.ref b3)) _ _ _ _ := hB.put (i := 0) (Nat.le_of_ble_eq_true rfl) 2 (.ref b3)
  generalize pV _ a 2 (.ref b3) = σ5 at hB ⊢
  refine v_aload_n C.1 0 29 rfl dX1_init_28 rfl ?_
  refine v_newc C.1 nw_RX1_21 ⟨(Nat.le_of_ble_eq_true rfl), (Nat.le_of_ble_eq_true rfl)⟩ 4 50 rfl rfl 32 rfl dX1_init_29 fun b4 hn4 => ?_
  refine v_dup C.1 rfl 33 rfl dX1_init_32 ?_
  refine v_callI C.1 (st := [.ref b4, .ref a]) (c_X3_init (by exact (jMade_a _ _ _ _).1)) yi_X3 mi_RX1_23 rfl ⟨(Nat.le_of_ble_eq_true rfl), (Nat.le_of_ble_eq_true rfl)⟩ ⟨(Nat.le_of_ble_eq_true rfl), (Nat.le_of_ble_eq_true rfl)⟩ (Nat.le_of_ble_eq_true rfl) rfl 5 66 rfl rfl 36 rfl dX1_init_33 (fun r σi hr => ?_)
  obtain ⟨rfl, g4, W4, g0, hI, w4_0, w4_1, w4_2⟩ := hr
  rw [hG] at hn4 hI
  subst g0
  have hB := hB.cat hn4 rfl (Nat.le_of_ble_eq_true rfl) hI
  clear hI
  simp only [Option.toList, List.nil_append]
  refine v_putF C.1 hN 3 fp_X1_24 rfl rfl ((hB.2.2.1 0 (Nat.le_of_ble_eq_true rfl)).1) 39 rfl dX1_init_36 ?_
  have hB : Blk G σ (pV _ a 3 (.ref (g4 0))) _ _ _ _ := hB.put (i := 0) (Nat.le_of_ble_eq_true rfl) 3 (.ref (g4 0))
  generalize pV _ a 3 (.ref (g4 0)) = σ6 at hB ⊢
  have hP : Blk G σ (jPro _ a (1, 5, 4)) _ _ _ _ := hB.pro (i := 0) (Nat.le_of_ble_eq_true rfl) (e := (1, 5, 4)) (Or.inl rfl)
  refine v_pro ((hB.2.2.1 0 (Nat.le_of_ble_eq_true rfl)).1) (fun j hj => ?_) ?_
  · have hc : j = 0 ∨ j = 1 ∨ j = 2 ∨ j = 3 := by omega
    rcases hc with z | z | z | z <;> subst z
    · exact ⟨_, (hB.2.2.1 0 (Nat.le_of_ble_eq_true rfl)).2 0, (hP.2.2.1 1 (Nat.le_of_ble_eq_true rfl)).1⟩
    · exact ⟨_, (hB.2.2.1 0 (Nat.le_of_ble_eq_true rfl)).2 1, (hP.2.2.1 2 (Nat.le_of_ble_eq_true rfl)).1⟩
    · exact ⟨_, (hB.2.2.1 0 (Nat.le_of_ble_eq_true rfl)).2 2, (hP.2.2.1 3 (Nat.le_of_ble_eq_true rfl)).1⟩
    · exact ⟨_, (hB.2.2.1 0 (Nat.le_of_ble_eq_true rfl)).2 3, (hP.2.2.1 4 (Nat.le_of_ble_eq_true rfl)).1⟩
  · refine v_vret C (Nat.le_of_ble_eq_true rfl) (Nat.le_of_ble_eq_true rfl) dX1_init_39 ?_
    rw [ho]
    refine ⟨rfl, _, _, rfl, hP.to (fun _ _ => rfl) (fun i hi => ?_) (fun _ _ _ => rfl), rfl, rfl, rfl, rfl, fun _ => rfl, fun _ => rfl, fun _ => rfl, w4_0, w4_1, w4_2⟩
    have hc : i = 0 ∨ i = 1 ∨ i = 2 ∨ i = 3 ∨ i = 4 ∨ i = 5 := by omega
    rcases hc with z | z | z | z | z | z <;> subst z <;> rfl
