/-! ===== the constructor of the model ===== -/
theorem v_iast {F : jFm} {own : String} {cc : ByteArray} {nL k1 k2 fr mc ms lo pc : Nat} {σ : jH} {lv : List (Nat × Value)} {st : List Value} (C : jA F own cc nL fr mc ms lo) {a n : Nat} (i : Nat) {x : Int32} (ha : σ.1 a = (2, 0, n)) (hi : i < n) (hi2 : i < 100000) (p1 : Nat) (hp : pc + 1 = p1) (hd : decode cc pc = .ok (.iastore, 1)) (kk : jV F nL k1 k2 (pV σ a i (.int x)) p1 lv st) : jV F nL k1 k2 σ pc lv (.int x :: .int (oN i) :: .ref a :: st) := by
  have e9 : ix (oN i) = i := oN_ix (by omega)
  refine r_iast (jA_set C σ.1) (κ' := kU σ.2 a i (.int x)) (by rw [(jSet_S _ _).1]; exact ha) ((oN_jin (by omega)).mpr hi) (by rw [e9]) p1 hp hd ?_
  exact kk
theorem oi_l_RX7 : Cond.methodLink RX7 1 Lib.objectInit ∈ TB := (TB_in (by decide +kernel) (by decide +kernel))
theorem fp_X7_7 : jFlw RX7 7 11 22 2 .int := ⟨RX7, TX7, tyX7, rfl, in_X7, tyX7_ok, nmX7, by decide, rfl, rfl, Or.inl (TB_in (by decide +kernel) (by decide +kernel))⟩
theorem fp_X7_13 : jFlw RX7 13 11 22 3 .int := ⟨RX7, TX7, tyX7, rfl, in_X7, tyX7_ok, nmX7, by decide, rfl, rfl, Or.inl (TB_in (by decide +kernel) (by decide +kernel))⟩
theorem fp_X7_16 : jFlf RX7 16 11 22 5 (.array .int) := ⟨TX7, tyX7, rfl, in_X7, tyX7_ok, nmX7, by decide, rfl, rfl, rfl, (TB_in (by decide +kernel) (by decide +kernel))⟩
theorem fp_X7_20 : jFlf RX7 20 11 22 6 (.array .int) := ⟨TX7, tyX7, rfl, in_X7, tyX7_ok, nmX7, by decide, rfl, rfl, rfl, (TB_in (by decide +kernel) (by decide +kernel))⟩
theorem fp_X7_23 : jFlf RX7 23 11 22 7 (.array .int) := ⟨TX7, tyX7, rfl, in_X7, tyX7_ok, nmX7, by decide, rfl, rfl, rfl, (TB_in (by decide +kernel) (by decide +kernel))⟩
theorem fp_X7_26 : jFlf RX7 26 11 22 8 (.array .int) := ⟨TX7, tyX7, rfl, in_X7, tyX7_ok, nmX7, by decide, rfl, rfl, rfl, (TB_in (by decide +kernel) (by decide +kernel))⟩
theorem fp_X7_29 : jFlf RX7 29 11 22 9 (.array .int) := ⟨TX7, tyX7, rfl, in_X7, tyX7_ok, nmX7, by decide, rfl, rfl, rfl, (TB_in (by decide +kernel) (by decide +kernel))⟩
theorem fp_X7_32 : jFlf RX7 32 11 22 10 (.array .int) := ⟨TX7, tyX7, rfl, in_X7, tyX7_ok, nmX7, by decide, rfl, rfl, rfl, (TB_in (by decide +kernel) (by decide +kernel))⟩
theorem fp_X7_35 : jFlf RX7 35 11 22 11 (.array .int) := ⟨TX7, tyX7, rfl, in_X7, tyX7_ok, nmX7, by decide, rfl, rfl, rfl, (TB_in (by decide +kernel) (by decide +kernel))⟩
theorem fp_X7_38 : jFlf RX7 38 11 22 12 (.array .int) := ⟨TX7, tyX7, rfl, in_X7, tyX7_ok, nmX7, by decide, rfl, rfl, rfl, (TB_in (by decide +kernel) (by decide +kernel))⟩
theorem fp_X7_41 : jFlf RX7 41 11 22 13 (.array .int) := ⟨TX7, tyX7, rfl, in_X7, tyX7_ok, nmX7, by decide, rfl, rfl, rfl, (TB_in (by decide +kernel) (by decide +kernel))⟩
theorem fp_X7_44 : jFlf RX7 44 11 22 14 (.array .int) := ⟨TX7, tyX7, rfl, in_X7, tyX7_ok, nmX7, by decide, rfl, rfl, rfl, (TB_in (by decide +kernel) (by decide +kernel))⟩
theorem fp_X7_47 : jFlf RX7 47 11 22 15 (.array .int) := ⟨TX7, tyX7, rfl, in_X7, tyX7_ok, nmX7, by decide, rfl, rfl, rfl, (TB_in (by decide +kernel) (by decide +kernel))⟩
def mWd : List Nat := [98, 117, 121, 32, 99, 117, 115, 116, 111, 109, 101, 114, 32, 102, 105, 116, 32, 115, 117, 105, 116, 32, 99, 117, 116, 32, 115, 101, 119, 32, 117, 110, 112, 105, 99, 107, 32, 111, 114, 100, 101, 114, 32, 100, 101, 108, 105, 118, 101, 114, 32, 115, 99, 114, 97, 112, 32]
def mWa : List Nat := [0, 4, 13, 17, 22, 26, 30, 37, 43, 51, 57]
def s_X7 : Nat → Nat × Nat × Nat := fun i => if i = 0 then (1, 11, 22) else (2, 0, [0, 457, 457, 457, 3656, 16, 16, 60, 70, 10, 57, 11].getD i 0)
theorem c_X7_init {l : Launch} {G : jG} {σ : jH} {a : Nat} (h : σ.1 a = (3, 11, 22)) (hz : ∀ k, k < 22 → ¬ (5 ≤ k ∧ k < 16) → ∃ x, σ.2 a k = .int x) : jM l G yX7_init cX7_init 1 none 1 11 5267 12 [.ref a] σ (fun r σ' => r = none ∧ ∃ f V, f 0 = a ∧ Blk G σ σ' 12 f s_X7 V ∧ V 0 2 = .int (-1) ∧ V 0 3 = .int (-1) ∧ V 0 5 = .ref (f 1) ∧ V 0 6 = .ref (f 2) ∧ V 0 7 = .ref (f 3) ∧ V 0 8 = .ref (f 4) ∧ V 0 9 = .ref (f 5) ∧ V 0 10 = .ref (f 6) ∧ V 0 11 = .ref (f 7) ∧ V 0 12 = .ref (f 8) ∧ V 0 13 = .ref (f 9) ∧ V 0 14 = .ref (f 10) ∧ V 0 15 = .ref (f 11) ∧ (∀ k, k ≠ 2 ∧ k ≠ 3 ∧ k ≠ 5 ∧ k ≠ 6 ∧ k ≠ 7 ∧ k ≠ 8 ∧ k ≠ 9 ∧ k ≠ 10 ∧ k ≠ 11 ∧ k ≠ 12 ∧ k ≠ 13 ∧ k ≠ 14 ∧ k ≠ 15 → V 0 k = σ.2 a k) ∧ (∀ i k, 1 ≤ i → i < 10 → V i k = .int 0) ∧ (∀ k, k < 57 → V 10 k = .int (oN (mWd.getD k 0))) ∧ (∀ k, k < 11 → V 11 k = .int (oN (mWa.getD k 0)))) jNo := by
  refine r_body3 (by decide +kernel) rfl (Nat.le_of_ble_eq_true rfl) fun F C hl hG hN ho => ?_
  show jV F _ 0 0 σ 0 [(0, .ref a)] []
  have hB := Blk.one (G := G) h (Or.inr (Or.inr (Or.inl rfl)))
  refine v_aload_n C.1 0 1 rfl dX7_init_0 rfl ?_
  refine v_obj C.1 oi_l_RX7 oi_i oi_c ⟨(Nat.le_of_ble_eq_true rfl), (Nat.le_of_ble_eq_true rfl)⟩ 4 rfl dX7_init_1 ?_
  refine v_aload_n C.1 0 5 rfl dX7_init_4 rfl ?_
  refine v_iconst C.1 (-1) rfl 6 rfl dX7_init_5 ?_
  refine v_put C.1 2 fp_X7_7 rfl rfl ((hB.2.2.1 0 (Nat.le_of_ble_eq_true rfl)).1) 9 rfl dX7_init_6 ?_
  have hB : Blk G σ (pV _ a 2 (.int (-1))) _ _ _ _ := hB.put (i := 0) (Nat.le_of_ble_eq_true rfl) 2 (.int (-1))
  generalize pV _ a 2 (.int (-1)) = σ0 at hB ⊢
  refine v_aload_n C.1 0 10 rfl dX7_init_9 rfl ?_
  refine v_iconst C.1 (-1) rfl 11 rfl dX7_init_10 ?_
  refine v_put C.1 3 fp_X7_13 rfl rfl ((hB.2.2.1 0 (Nat.le_of_ble_eq_true rfl)).1) 14 rfl dX7_init_11 ?_
  have hB : Blk G σ (pV _ a 3 (.int (-1))) _ _ _ _ := hB.put (i := 0) (Nat.le_of_ble_eq_true rfl) 3 (.int (-1))
  generalize pV _ a 3 (.int (-1)) = σ1 at hB ⊢
  refine v_aload_n C.1 0 15 rfl dX7_init_14 rfl ?_
  refine v_sipush C.1 457 rfl 18 rfl dX7_init_15 ?_
  refine v_newa C.1 (t := 0) (N := 457) (by decide) rfl ar_0 (by decide) rfl (by decide) ⟨(Nat.le_of_ble_eq_true rfl), (Nat.le_of_ble_eq_true rfl)⟩ 1 457 rfl rfl 20 rfl dX7_init_18 fun b1 hn1 => ?_
  rw [hG] at hn1
  have hB := hB.add (d := fun _ => defaultValue (j_aty 0)) hn1 (e := (2, 0, 457)) (Or.inr (Or.inl rfl))
  generalize jMade _ b1 (2, 0, 457) (fun _ => defaultValue (j_aty 0)) = σ2 at hB ⊢
  refine v_putF C.1 hN 5 fp_X7_16 rfl rfl ((hB.2.2.1 0 (Nat.le_of_ble_eq_true rfl)).1) 23 rfl dX7_init_20 ?_
  have hB : Blk G σ (pV _ a 5 (.ref b1)) _ _ _ _ := hB.put (i := 0) (Nat.le_of_ble_eq_true rfl) 5 (.ref b1)
  generalize pV _ a 5 (.ref b1) = σ3 at hB ⊢
  refine v_aload_n C.1 0 24 rfl dX7_init_23 rfl ?_
  refine v_sipush C.1 457 rfl 27 rfl dX7_init_24 ?_
  refine v_newa C.1 (t := 0) (N := 457) (by decide) rfl ar_0 (by decide) rfl (by decide) ⟨(Nat.le_of_ble_eq_true rfl), (Nat.le_of_ble_eq_true rfl)⟩ 2 914 rfl rfl 29 rfl dX7_init_27 fun b2 hn2 => ?_
  rw [hG] at hn2
  have hB := hB.add (d := fun _ => defaultValue (j_aty 0)) hn2 (e := (2, 0, 457)) (Or.inr (Or.inl rfl))
  generalize jMade _ b2 (2, 0, 457) (fun _ => defaultValue (j_aty 0)) = σ4 at hB ⊢
  refine v_putF C.1 hN 6 fp_X7_20 rfl rfl ((hB.2.2.1 0 (Nat.le_of_ble_eq_true rfl)).1) 32 rfl dX7_init_29 ?_
  have hB : Blk G σ (pV _ a 6 (.ref b2)) _ _ _ _ := hB.put (i := 0) (Nat.le_of_ble_eq_true rfl) 6 (.ref b2)
  generalize pV _ a 6 (.ref b2) = σ5 at hB ⊢
  refine v_aload_n C.1 0 33 rfl dX7_init_32 rfl ?_
  refine v_sipush C.1 457 rfl 36 rfl dX7_init_33 ?_
  refine v_newa C.1 (t := 0) (N := 457) (by decide) rfl ar_0 (by decide) rfl (by decide) ⟨(Nat.le_of_ble_eq_true rfl), (Nat.le_of_ble_eq_true rfl)⟩ 3 1371 rfl rfl 38 rfl dX7_init_36 fun b3 hn3 => ?_
  rw [hG] at hn3
  have hB := hB.add (d := fun _ => defaultValue (j_aty 0)) hn3 (e := (2, 0, 457)) (Or.inr (Or.inl rfl))
  generalize jMade _ b3 (2, 0, 457) (fun _ => defaultValue (j_aty 0)) = σ6 at hB ⊢
  refine v_putF C.1 hN 7 fp_X7_23 rfl rfl ((hB.2.2.1 0 (Nat.le_of_ble_eq_true rfl)).1) 41 rfl dX7_init_38 ?_
  have hB : Blk G σ (pV _ a 7 (.ref b3)) _ _ _ _ := hB.put (i := 0) (Nat.le_of_ble_eq_true rfl) 7 (.ref b3)
  generalize pV _ a 7 (.ref b3) = σ7 at hB ⊢
  refine v_aload_n C.1 0 42 rfl dX7_init_41 rfl ?_
  refine v_sipush C.1 3656 rfl 45 rfl dX7_init_42 ?_
  refine v_newa C.1 (t := 0) (N := 3656) (by decide) rfl ar_0 (by decide) rfl (by decide) ⟨(Nat.le_of_ble_eq_true rfl), (Nat.le_of_ble_eq_true rfl)⟩ 4 5027 rfl rfl 47 rfl dX7_init_45 fun b4 hn4 => ?_
  rw [hG] at hn4
  have hB := hB.add (d := fun _ => defaultValue (j_aty 0)) hn4 (e := (2, 0, 3656)) (Or.inr (Or.inl rfl))
  generalize jMade _ b4 (2, 0, 3656) (fun _ => defaultValue (j_aty 0)) = σ8 at hB ⊢
  refine v_putF C.1 hN 8 fp_X7_26 rfl rfl ((hB.2.2.1 0 (Nat.le_of_ble_eq_true rfl)).1) 50 rfl dX7_init_47 ?_
  have hB : Blk G σ (pV _ a 8 (.ref b4)) _ _ _ _ := hB.put (i := 0) (Nat.le_of_ble_eq_true rfl) 8 (.ref b4)
  generalize pV _ a 8 (.ref b4) = σ9 at hB ⊢
  refine v_aload_n C.1 0 51 rfl dX7_init_50 rfl ?_
  refine v_bipush C.1 16 rfl 53 rfl dX7_init_51 ?_
  refine v_newa C.1 (t := 0) (N := 16) (by decide) rfl ar_0 (by decide) rfl (by decide) ⟨(Nat.le_of_ble_eq_true rfl), (Nat.le_of_ble_eq_true rfl)⟩ 5 5043 rfl rfl 55 rfl dX7_init_53 fun b5 hn5 => ?_
  rw [hG] at hn5
  have hB := hB.add (d := fun _ => defaultValue (j_aty 0)) hn5 (e := (2, 0, 16)) (Or.inr (Or.inl rfl))
  generalize jMade _ b5 (2, 0, 16) (fun _ => defaultValue (j_aty 0)) = σ10 at hB ⊢
  refine v_putF C.1 hN 9 fp_X7_29 rfl rfl ((hB.2.2.1 0 (Nat.le_of_ble_eq_true rfl)).1) 58 rfl dX7_init_55 ?_
  have hB : Blk G σ (pV _ a 9 (.ref b5)) _ _ _ _ := hB.put (i := 0) (Nat.le_of_ble_eq_true rfl) 9 (.ref b5)
  generalize pV _ a 9 (.ref b5) = σ11 at hB ⊢
  refine v_aload_n C.1 0 59 rfl dX7_init_58 rfl ?_
  refine v_bipush C.1 16 rfl 61 rfl dX7_init_59 ?_
  refine v_newa C.1 (t := 0) (N := 16) (by decide) rfl ar_0 (by decide) rfl (by decide) ⟨(Nat.le_of_ble_eq_true rfl), (Nat.le_of_ble_eq_true rfl)⟩ 6 5059 rfl rfl 63 rfl dX7_init_61 fun b6 hn6 => ?_
  rw [hG] at hn6
  have hB := hB.add (d := fun _ => defaultValue (j_aty 0)) hn6 (e := (2, 0, 16)) (Or.inr (Or.inl rfl))
  generalize jMade _ b6 (2, 0, 16) (fun _ => defaultValue (j_aty 0)) = σ12 at hB ⊢
  refine v_putF C.1 hN 10 fp_X7_32 rfl rfl ((hB.2.2.1 0 (Nat.le_of_ble_eq_true rfl)).1) 66 rfl dX7_init_63 ?_
  have hB : Blk G σ (pV _ a 10 (.ref b6)) _ _ _ _ := hB.put (i := 0) (Nat.le_of_ble_eq_true rfl) 10 (.ref b6)
  generalize pV _ a 10 (.ref b6) = σ13 at hB ⊢
  refine v_aload_n C.1 0 67 rfl dX7_init_66 rfl ?_
  refine v_bipush C.1 60 rfl 69 rfl dX7_init_67 ?_
  refine v_newa C.1 (t := 0) (N := 60) (by decide) rfl ar_0 (by decide) rfl (by decide) ⟨(Nat.le_of_ble_eq_true rfl), (Nat.le_of_ble_eq_true rfl)⟩ 7 5119 rfl rfl 71 rfl dX7_init_69 fun b7 hn7 => ?_
  rw [hG] at hn7
  have hB := hB.add (d := fun _ => defaultValue (j_aty 0)) hn7 (e := (2, 0, 60)) (Or.inr (Or.inl rfl))
  generalize jMade _ b7 (2, 0, 60) (fun _ => defaultValue (j_aty 0)) = σ14 at hB ⊢
  refine v_putF C.1 hN 11 fp_X7_35 rfl rfl ((hB.2.2.1 0 (Nat.le_of_ble_eq_true rfl)).1) 74 rfl dX7_init_71 ?_
  have hB : Blk G σ (pV _ a 11 (.ref b7)) _ _ _ _ := hB.put (i := 0) (Nat.le_of_ble_eq_true rfl) 11 (.ref b7)
  generalize pV _ a 11 (.ref b7) = σ15 at hB ⊢
  refine v_aload_n C.1 0 75 rfl dX7_init_74 rfl ?_
  refine v_bipush C.1 70 rfl 77 rfl dX7_init_75 ?_
  refine v_newa C.1 (t := 0) (N := 70) (by decide) rfl ar_0 (by decide) rfl (by decide) ⟨(Nat.le_of_ble_eq_true rfl), (Nat.le_of_ble_eq_true rfl)⟩ 8 5189 rfl rfl 79 rfl dX7_init_77 fun b8 hn8 => ?_
  rw [hG] at hn8
  have hB := hB.add (d := fun _ => defaultValue (j_aty 0)) hn8 (e := (2, 0, 70)) (Or.inr (Or.inl rfl))
  generalize jMade _ b8 (2, 0, 70) (fun _ => defaultValue (j_aty 0)) = σ16 at hB ⊢
  refine v_putF C.1 hN 12 fp_X7_38 rfl rfl ((hB.2.2.1 0 (Nat.le_of_ble_eq_true rfl)).1) 82 rfl dX7_init_79 ?_
  have hB : Blk G σ (pV _ a 12 (.ref b8)) _ _ _ _ := hB.put (i := 0) (Nat.le_of_ble_eq_true rfl) 12 (.ref b8)
  generalize pV _ a 12 (.ref b8) = σ17 at hB ⊢
  refine v_aload_n C.1 0 83 rfl dX7_init_82 rfl ?_
  refine v_bipush C.1 10 rfl 85 rfl dX7_init_83 ?_
  refine v_newa C.1 (t := 0) (N := 10) (by decide) rfl ar_0 (by decide) rfl (by decide) ⟨(Nat.le_of_ble_eq_true rfl), (Nat.le_of_ble_eq_true rfl)⟩ 9 5199 rfl rfl 87 rfl dX7_init_85 fun b9 hn9 => ?_
  rw [hG] at hn9
  have hB := hB.add (d := fun _ => defaultValue (j_aty 0)) hn9 (e := (2, 0, 10)) (Or.inr (Or.inl rfl))
  generalize jMade _ b9 (2, 0, 10) (fun _ => defaultValue (j_aty 0)) = σ18 at hB ⊢
  refine v_putF C.1 hN 13 fp_X7_41 rfl rfl ((hB.2.2.1 0 (Nat.le_of_ble_eq_true rfl)).1) 90 rfl dX7_init_87 ?_
  have hB : Blk G σ (pV _ a 13 (.ref b9)) _ _ _ _ := hB.put (i := 0) (Nat.le_of_ble_eq_true rfl) 13 (.ref b9)
  generalize pV _ a 13 (.ref b9) = σ19 at hB ⊢
  refine v_aload_n C.1 0 91 rfl dX7_init_90 rfl ?_
  refine v_bipush C.1 57 rfl 93 rfl dX7_init_91 ?_
  refine v_newa C.1 (t := 0) (N := 57) (by decide) rfl ar_0 (by decide) rfl (by decide) ⟨(Nat.le_of_ble_eq_true rfl), (Nat.le_of_ble_eq_true rfl)⟩ 10 5256 rfl rfl 95 rfl dX7_init_93 fun b10 hn10 => ?_
  rw [hG] at hn10
  have hB := hB.add (d := fun _ => defaultValue (j_aty 0)) hn10 (e := (2, 0, 57)) (Or.inr (Or.inl rfl))
  generalize jMade _ b10 (2, 0, 57) (fun _ => defaultValue (j_aty 0)) = σ20 at hB ⊢
  refine v_dup C.1 rfl 96 rfl dX7_init_95 ?_
  refine v_iconst C.1 0 rfl 97 rfl dX7_init_96 ?_
  refine v_bipush C.1 98 rfl 99 rfl dX7_init_97 ?_
  refine v_iast C.1 0 ((hB.2.2.1 10 (Nat.le_of_ble_eq_true rfl)).1) (by decide) (by decide) 100 rfl dX7_init_99 ?_
  have hB : Blk G σ (pV _ b10 0 (.int 98)) _ _ _ _ := hB.put (i := 10) (Nat.le_of_ble_eq_true rfl) 0 (.int 98)
  generalize pV _ b10 0 (.int 98) = σ21 at hB ⊢
  refine v_dup C.1 rfl 101 rfl dX7_init_100 ?_
  refine v_iconst C.1 1 rfl 102 rfl dX7_init_101 ?_
  refine v_bipush C.1 117 rfl 104 rfl dX7_init_102 ?_
  refine v_iast C.1 1 ((hB.2.2.1 10 (Nat.le_of_ble_eq_true rfl)).1) (by decide) (by decide) 105 rfl dX7_init_104 ?_
  have hB : Blk G σ (pV _ b10 1 (.int 117)) _ _ _ _ := hB.put (i := 10) (Nat.le_of_ble_eq_true rfl) 1 (.int 117)
  generalize pV _ b10 1 (.int 117) = σ22 at hB ⊢
  refine v_dup C.1 rfl 106 rfl dX7_init_105 ?_
  refine v_iconst C.1 2 rfl 107 rfl dX7_init_106 ?_
  refine v_bipush C.1 121 rfl 109 rfl dX7_init_107 ?_
  refine v_iast C.1 2 ((hB.2.2.1 10 (Nat.le_of_ble_eq_true rfl)).1) (by decide) (by decide) 110 rfl dX7_init_109 ?_
  have hB : Blk G σ (pV _ b10 2 (.int 121)) _ _ _ _ := hB.put (i := 10) (Nat.le_of_ble_eq_true rfl) 2 (.int 121)
  generalize pV _ b10 2 (.int 121) = σ23 at hB ⊢
  refine v_dup C.1 rfl 111 rfl dX7_init_110 ?_
  refine v_iconst C.1 3 rfl 112 rfl dX7_init_111 ?_
  refine v_bipush C.1 32 rfl 114 rfl dX7_init_112 ?_
  refine v_iast C.1 3 ((hB.2.2.1 10 (Nat.le_of_ble_eq_true rfl)).1) (by decide) (by decide) 115 rfl dX7_init_114 ?_
  have hB : Blk G σ (pV _ b10 3 (.int 32)) _ _ _ _ := hB.put (i := 10) (Nat.le_of_ble_eq_true rfl) 3 (.int 32)
  generalize pV _ b10 3 (.int 32) = σ24 at hB ⊢
  refine v_dup C.1 rfl 116 rfl dX7_init_115 ?_
  refine v_iconst C.1 4 rfl 117 rfl dX7_init_116 ?_
  refine v_bipush C.1 99 rfl 119 rfl dX7_init_117 ?_
  refine v_iast C.1 4 ((hB.2.2.1 10 (Nat.le_of_ble_eq_true rfl)).1) (by decide) (by decide) 120 rfl dX7_init_119 ?_
  have hB : Blk G σ (pV _ b10 4 (.int 99)) _ _ _ _ := hB.put (i := 10) (Nat.le_of_ble_eq_true rfl) 4 (.int 99)
  generalize pV _ b10 4 (.int 99) = σ25 at hB ⊢
  refine v_dup C.1 rfl 121 rfl dX7_init_120 ?_
  refine v_iconst C.1 5 rfl 122 rfl dX7_init_121 ?_
  refine v_bipush C.1 117 rfl 124 rfl dX7_init_122 ?_
  refine v_iast C.1 5 ((hB.2.2.1 10 (Nat.le_of_ble_eq_true rfl)).1) (by decide) (by decide) 125 rfl dX7_init_124 ?_
  have hB : Blk G σ (pV _ b10 5 (.int 117)) _ _ _ _ := hB.put (i := 10) (Nat.le_of_ble_eq_true rfl) 5 (.int 117)
  generalize pV _ b10 5 (.int 117) = σ26 at hB ⊢
  refine v_dup C.1 rfl 126 rfl dX7_init_125 ?_
  refine v_bipush C.1 6 rfl 128 rfl dX7_init_126 ?_
  refine v_bipush C.1 115 rfl 130 rfl dX7_init_128 ?_
  refine v_iast C.1 6 ((hB.2.2.1 10 (Nat.le_of_ble_eq_true rfl)).1) (by decide) (by decide) 131 rfl dX7_init_130 ?_
  have hB : Blk G σ (pV _ b10 6 (.int 115)) _ _ _ _ := hB.put (i := 10) (Nat.le_of_ble_eq_true rfl) 6 (.int 115)
  generalize pV _ b10 6 (.int 115) = σ27 at hB ⊢
  refine v_dup C.1 rfl 132 rfl dX7_init_131 ?_
  refine v_bipush C.1 7 rfl 134 rfl dX7_init_132 ?_
  refine v_bipush C.1 116 rfl 136 rfl dX7_init_134 ?_
  refine v_iast C.1 7 ((hB.2.2.1 10 (Nat.le_of_ble_eq_true rfl)).1) (by decide) (by decide) 137 rfl dX7_init_136 ?_
  have hB : Blk G σ (pV _ b10 7 (.int 116)) _ _ _ _ := hB.put (i := 10) (Nat.le_of_ble_eq_true rfl) 7 (.int 116)
  generalize pV _ b10 7 (.int 116) = σ28 at hB ⊢
  refine v_dup C.1 rfl 138 rfl dX7_init_137 ?_
  refine v_bipush C.1 8 rfl 140 rfl dX7_init_138 ?_
  refine v_bipush C.1 111 rfl 142 rfl dX7_init_140 ?_
  refine v_iast C.1 8 ((hB.2.2.1 10 (Nat.le_of_ble_eq_true rfl)).1) (by decide) (by decide) 143 rfl dX7_init_142 ?_
  have hB : Blk G σ (pV _ b10 8 (.int 111)) _ _ _ _ := hB.put (i := 10) (Nat.le_of_ble_eq_true rfl) 8 (.int 111)
  generalize pV _ b10 8 (.int 111) = σ29 at hB ⊢
  refine v_dup C.1 rfl 144 rfl dX7_init_143 ?_
  refine v_bipush C.1 9 rfl 146 rfl dX7_init_144 ?_
  refine v_bipush C.1 109 rfl 148 rfl dX7_init_146 ?_
  refine v_iast C.1 9 ((hB.2.2.1 10 (Nat.le_of_ble_eq_true rfl)).1) (by decide) (by decide) 149 rfl dX7_init_148 ?_
  have hB : Blk G σ (pV _ b10 9 (.int 109)) _ _ _ _ := hB.put (i := 10) (Nat.le_of_ble_eq_true rfl) 9 (.int 109)
  generalize pV _ b10 9 (.int 109) = σ30 at hB ⊢
  refine v_dup C.1 rfl 150 rfl dX7_init_149 ?_
  refine v_bipush C.1 10 rfl 152 rfl dX7_init_150 ?_
  refine v_bipush C.1 101 rfl 154 rfl dX7_init_152 ?_
  refine v_iast C.1 10 ((hB.2.2.1 10 (Nat.le_of_ble_eq_true rfl)).1) (by decide) (by decide) 155 rfl dX7_init_154 ?_
  have hB : Blk G σ (pV _ b10 10 (.int 101)) _ _ _ _ := hB.put (i := 10) (Nat.le_of_ble_eq_true rfl) 10 (.int 101)
  generalize pV _ b10 10 (.int 101) = σ31 at hB ⊢
  refine v_dup C.1 rfl 156 rfl dX7_init_155 ?_
  refine v_bipush C.1 11 rfl 158 rfl dX7_init_156 ?_
  refine v_bipush C.1 114 rfl 160 rfl dX7_init_158 ?_
  refine v_iast C.1 11 ((hB.2.2.1 10 (Nat.le_of_ble_eq_true rfl)).1) (by decide) (by decide) 161 rfl dX7_init_160 ?_
  have hB : Blk G σ (pV _ b10 11 (.int 114)) _ _ _ _ := hB.put (i := 10) (Nat.le_of_ble_eq_true rfl) 11 (.int 114)
  generalize pV _ b10 11 (.int 114) = σ32 at hB ⊢
  refine v_dup C.1 rfl 162 rfl dX7_init_161 ?_
  refine v_bipush C.1 12 rfl 164 rfl dX7_init_162 ?_
  refine v_bipush C.1 32 rfl 166 rfl dX7_init_164 ?_
  refine v_iast C.1 12 ((hB.2.2.1 10 (Nat.le_of_ble_eq_true rfl)).1) (by decide) (by decide) 167 rfl dX7_init_166 ?_
  have hB : Blk G σ (pV _ b10 12 (.int 32)) _ _ _ _ := hB.put (i := 10) (Nat.le_of_ble_eq_true rfl) 12 (.int 32)
  generalize pV _ b10 12 (.int 32) = σ33 at hB ⊢
  refine v_dup C.1 rfl 168 rfl dX7_init_167 ?_
  refine v_bipush C.1 13 rfl 170 rfl dX7_init_168 ?_
  refine v_bipush C.1 102 rfl 172 rfl dX7_init_170 ?_
  refine v_iast C.1 13 ((hB.2.2.1 10 (Nat.le_of_ble_eq_true rfl)).1) (by decide) (by decide) 173 rfl dX7_init_172 ?_
  have hB : Blk G σ (pV _ b10 13 (.int 102)) _ _ _ _ := hB.put (i := 10) (Nat.le_of_ble_eq_true rfl) 13 (.int 102)
  generalize pV _ b10 13 (.int 102) = σ34 at hB ⊢
  refine v_dup C.1 rfl 174 rfl dX7_init_173 ?_
  refine v_bipush C.1 14 rfl 176 rfl dX7_init_174 ?_
  refine v_bipush C.1 105 rfl 178 rfl dX7_init_176 ?_
  refine v_iast C.1 14 ((hB.2.2.1 10 (Nat.le_of_ble_eq_true rfl)).1) (by decide) (by decide) 179 rfl dX7_init_178 ?_
  have hB : Blk G σ (pV _ b10 14 (.int 105)) _ _ _ _ := hB.put (i := 10) (Nat.le_of_ble_eq_true rfl) 14 (.int 105)
  generalize pV _ b10 14 (.int 105) = σ35 at hB ⊢
  refine v_dup C.1 rfl 180 rfl dX7_init_179 ?_
  refine v_bipush C.1 15 rfl 182 rfl dX7_init_180 ?_
  refine v_bipush C.1 116 rfl 184 rfl dX7_init_182 ?_
  refine v_iast C.1 15 ((hB.2.2.1 10 (Nat.le_of_ble_eq_true rfl)).1) (by decide) (by decide) 185 rfl dX7_init_184 ?_
  have hB : Blk G σ (pV _ b10 15 (.int 116)) _ _ _ _ := hB.put (i := 10) (Nat.le_of_ble_eq_true rfl) 15 (.int 116)
  generalize pV _ b10 15 (.int 116) = σ36 at hB ⊢
  refine v_dup C.1 rfl 186 rfl dX7_init_185 ?_
  refine v_bipush C.1 16 rfl 188 rfl dX7_init_186 ?_
  refine v_bipush C.1 32 rfl 190 rfl dX7_init_188 ?_
  refine v_iast C.1 16 ((hB.2.2.1 10 (Nat.le_of_ble_eq_true rfl)).1) (by decide) (by decide) 191 rfl dX7_init_190 ?_
  have hB : Blk G σ (pV _ b10 16 (.int 32)) _ _ _ _ := hB.put (i := 10) (Nat.le_of_ble_eq_true rfl) 16 (.int 32)
  generalize pV _ b10 16 (.int 32) = σ37 at hB ⊢
  refine v_dup C.1 rfl 192 rfl dX7_init_191 ?_
  refine v_bipush C.1 17 rfl 194 rfl dX7_init_192 ?_
  refine v_bipush C.1 115 rfl 196 rfl dX7_init_194 ?_
  refine v_iast C.1 17 ((hB.2.2.1 10 (Nat.le_of_ble_eq_true rfl)).1) (by decide) (by decide) 197 rfl dX7_init_196 ?_
  have hB : Blk G σ (pV _ b10 17 (.int 115)) _ _ _ _ := hB.put (i := 10) (Nat.le_of_ble_eq_true rfl) 17 (.int 115)
  generalize pV _ b10 17 (.int 115) = σ38 at hB ⊢
  refine v_dup C.1 rfl 198 rfl dX7_init_197 ?_
  refine v_bipush C.1 18 rfl 200 rfl dX7_init_198 ?_
  refine v_bipush C.1 117 rfl 202 rfl dX7_init_200 ?_
  refine v_iast C.1 18 ((hB.2.2.1 10 (Nat.le_of_ble_eq_true rfl)).1) (by decide) (by decide) 203 rfl dX7_init_202 ?_
  have hB : Blk G σ (pV _ b10 18 (.int 117)) _ _ _ _ := hB.put (i := 10) (Nat.le_of_ble_eq_true rfl) 18 (.int 117)
  generalize pV _ b10 18 (.int 117) = σ39 at hB ⊢
  refine v_dup C.1 rfl 204 rfl dX7_init_203 ?_
  refine v_bipush C.1 19 rfl 206 rfl dX7_init_204 ?_
  refine v_bipush C.1 105 rfl 208 rfl dX7_init_206 ?_
  refine v_iast C.1 19 ((hB.2.2.1 10 (Nat.le_of_ble_eq_true rfl)).1) (by decide) (by decide) 209 rfl dX7_init_208 ?_
  have hB : Blk G σ (pV _ b10 19 (.int 105)) _ _ _ _ := hB.put (i := 10) (Nat.le_of_ble_eq_true rfl) 19 (.int 105)
  generalize pV _ b10 19 (.int 105) = σ40 at hB ⊢
  refine v_dup C.1 rfl 210 rfl dX7_init_209 ?_
  refine v_bipush C.1 20 rfl 212 rfl dX7_init_210 ?_
  refine v_bipush C.1 116 rfl 214 rfl dX7_init_212 ?_
  refine v_iast C.1 20 ((hB.2.2.1 10 (Nat.le_of_ble_eq_true rfl)).1) (by decide) (by decide) 215 rfl dX7_init_214 ?_
  have hB : Blk G σ (pV _ b10 20 (.int 116)) _ _ _ _ := hB.put (i := 10) (Nat.le_of_ble_eq_true rfl) 20 (.int 116)
  generalize pV _ b10 20 (.int 116) = σ41 at hB ⊢
  refine v_dup C.1 rfl 216 rfl dX7_init_215 ?_
  refine v_bipush C.1 21 rfl 218 rfl dX7_init_216 ?_
  refine v_bipush C.1 32 rfl 220 rfl dX7_init_218 ?_
  refine v_iast C.1 21 ((hB.2.2.1 10 (Nat.le_of_ble_eq_true rfl)).1) (by decide) (by decide) 221 rfl dX7_init_220 ?_
  have hB : Blk G σ (pV _ b10 21 (.int 32)) _ _ _ _ := hB.put (i := 10) (Nat.le_of_ble_eq_true rfl) 21 (.int 32)
  generalize pV _ b10 21 (.int 32) = σ42 at hB ⊢
  refine v_dup C.1 rfl 222 rfl dX7_init_221 ?_
  refine v_bipush C.1 22 rfl 224 rfl dX7_init_222 ?_
  refine v_bipush C.1 99 rfl 226 rfl dX7_init_224 ?_
  refine v_iast C.1 22 ((hB.2.2.1 10 (Nat.le_of_ble_eq_true rfl)).1) (by decide) (by decide) 227 rfl dX7_init_226 ?_
  have hB : Blk G σ (pV _ b10 22 (.int 99)) _ _ _ _ := hB.put (i := 10) (Nat.le_of_ble_eq_true rfl) 22 (.int 99)
  generalize pV _ b10 22 (.int 99) = σ43 at hB ⊢
  refine v_dup C.1 rfl 228 rfl dX7_init_227 ?_
  refine v_bipush C.1 23 rfl 230 rfl dX7_init_228 ?_
  refine v_bipush C.1 117 rfl 232 rfl dX7_init_230 ?_
  refine v_iast C.1 23 ((hB.2.2.1 10 (Nat.le_of_ble_eq_true rfl)).1) (by decide) (by decide) 233 rfl dX7_init_232 ?_
  have hB : Blk G σ (pV _ b10 23 (.int 117)) _ _ _ _ := hB.put (i := 10) (Nat.le_of_ble_eq_true rfl) 23 (.int 117)
  generalize pV _ b10 23 (.int 117) = σ44 at hB ⊢
  refine v_dup C.1 rfl 234 rfl dX7_init_233 ?_
  refine v_bipush C.1 24 rfl 236 rfl dX7_init_234 ?_
  refine v_bipush C.1 116 rfl 238 rfl dX7_init_236 ?_
  refine v_iast C.1 24 ((hB.2.2.1 10 (Nat.le_of_ble_eq_true rfl)).1) (by decide) (by decide) 239 rfl dX7_init_238 ?_
  have hB : Blk G σ (pV _ b10 24 (.int 116)) _ _ _ _ := hB.put (i := 10) (Nat.le_of_ble_eq_true rfl) 24 (.int 116)
  generalize pV _ b10 24 (.int 116) = σ45 at hB ⊢
  refine v_dup C.1 rfl 240 rfl dX7_init_239 ?_
  refine v_bipush C.1 25 rfl 242 rfl dX7_init_240 ?_
  refine v_bipush C.1 32 rfl 244 rfl dX7_init_242 ?_
  refine v_iast C.1 25 ((hB.2.2.1 10 (Nat.le_of_ble_eq_true rfl)).1) (by decide) (by decide) 245 rfl dX7_init_244 ?_
  have hB : Blk G σ (pV _ b10 25 (.int 32)) _ _ _ _ := hB.put (i := 10) (Nat.le_of_ble_eq_true rfl) 25 (.int 32)
  generalize pV _ b10 25 (.int 32) = σ46 at hB ⊢
  refine v_dup C.1 rfl 246 rfl dX7_init_245 ?_
  refine v_bipush C.1 26 rfl 248 rfl dX7_init_246 ?_
  refine v_bipush C.1 115 rfl 250 rfl dX7_init_248 ?_
  refine v_iast C.1 26 ((hB.2.2.1 10 (Nat.le_of_ble_eq_true rfl)).1) (by decide) (by decide) 251 rfl dX7_init_250 ?_
  have hB : Blk G σ (pV _ b10 26 (.int 115)) _ _ _ _ := hB.put (i := 10) (Nat.le_of_ble_eq_true rfl) 26 (.int 115)
  generalize pV _ b10 26 (.int 115) = σ47 at hB ⊢
  refine v_dup C.1 rfl 252 rfl dX7_init_251 ?_
  refine v_bipush C.1 27 rfl 254 rfl dX7_init_252 ?_
  refine v_bipush C.1 101 rfl 256 rfl dX7_init_254 ?_
  refine v_iast C.1 27 ((hB.2.2.1 10 (Nat.le_of_ble_eq_true rfl)).1) (by decide) (by decide) 257 rfl dX7_init_256 ?_
  have hB : Blk G σ (pV _ b10 27 (.int 101)) _ _ _ _ := hB.put (i := 10) (Nat.le_of_ble_eq_true rfl) 27 (.int 101)
  generalize pV _ b10 27 (.int 101) = σ48 at hB ⊢
  refine v_dup C.1 rfl 258 rfl dX7_init_257 ?_
  refine v_bipush C.1 28 rfl 260 rfl dX7_init_258 ?_
  refine v_bipush C.1 119 rfl 262 rfl dX7_init_260 ?_
  refine v_iast C.1 28 ((hB.2.2.1 10 (Nat.le_of_ble_eq_true rfl)).1) (by decide) (by decide) 263 rfl dX7_init_262 ?_
  have hB : Blk G σ (pV _ b10 28 (.int 119)) _ _ _ _ := hB.put (i := 10) (Nat.le_of_ble_eq_true rfl) 28 (.int 119)
  generalize pV _ b10 28 (.int 119) = σ49 at hB ⊢
  refine v_dup C.1 rfl 264 rfl dX7_init_263 ?_
  refine v_bipush C.1 29 rfl 266 rfl dX7_init_264 ?_
  refine v_bipush C.1 32 rfl 268 rfl dX7_init_266 ?_
  refine v_iast C.1 29 ((hB.2.2.1 10 (Nat.le_of_ble_eq_true rfl)).1) (by decide) (by decide) 269 rfl dX7_init_268 ?_
  have hB : Blk G σ (pV _ b10 29 (.int 32)) _ _ _ _ := hB.put (i := 10) (Nat.le_of_ble_eq_true rfl) 29 (.int 32)
  generalize pV _ b10 29 (.int 32) = σ50 at hB ⊢
  refine v_dup C.1 rfl 270 rfl dX7_init_269 ?_
  refine v_bipush C.1 30 rfl 272 rfl dX7_init_270 ?_
  refine v_bipush C.1 117 rfl 274 rfl dX7_init_272 ?_
  refine v_iast C.1 30 ((hB.2.2.1 10 (Nat.le_of_ble_eq_true rfl)).1) (by decide) (by decide) 275 rfl dX7_init_274 ?_
  have hB : Blk G σ (pV _ b10 30 (.int 117)) _ _ _ _ := hB.put (i := 10) (Nat.le_of_ble_eq_true rfl) 30 (.int 117)
  generalize pV _ b10 30 (.int 117) = σ51 at hB ⊢
  refine v_dup C.1 rfl 276 rfl dX7_init_275 ?_
  refine v_bipush C.1 31 rfl 278 rfl dX7_init_276 ?_
  refine v_bipush C.1 110 rfl 280 rfl dX7_init_278 ?_
  refine v_iast C.1 31 ((hB.2.2.1 10 (Nat.le_of_ble_eq_true rfl)).1) (by decide) (by decide) 281 rfl dX7_init_280 ?_
  have hB : Blk G σ (pV _ b10 31 (.int 110)) _ _ _ _ := hB.put (i := 10) (Nat.le_of_ble_eq_true rfl) 31 (.int 110)
  generalize pV _ b10 31 (.int 110) = σ52 at hB ⊢
  refine v_dup C.1 rfl 282 rfl dX7_init_281 ?_
  refine v_bipush C.1 32 rfl 284 rfl dX7_init_282 ?_
  refine v_bipush C.1 112 rfl 286 rfl dX7_init_284 ?_
  refine v_iast C.1 32 ((hB.2.2.1 10 (Nat.le_of_ble_eq_true rfl)).1) (by decide) (by decide) 287 rfl dX7_init_286 ?_
  have hB : Blk G σ (pV _ b10 32 (.int 112)) _ _ _ _ := hB.put (i := 10) (Nat.le_of_ble_eq_true rfl) 32 (.int 112)
  generalize pV _ b10 32 (.int 112) = σ53 at hB ⊢
  refine v_dup C.1 rfl 288 rfl dX7_init_287 ?_
  refine v_bipush C.1 33 rfl 290 rfl dX7_init_288 ?_
  refine v_bipush C.1 105 rfl 292 rfl dX7_init_290 ?_
  refine v_iast C.1 33 ((hB.2.2.1 10 (Nat.le_of_ble_eq_true rfl)).1) (by decide) (by decide) 293 rfl dX7_init_292 ?_
  have hB : Blk G σ (pV _ b10 33 (.int 105)) _ _ _ _ := hB.put (i := 10) (Nat.le_of_ble_eq_true rfl) 33 (.int 105)
  generalize pV _ b10 33 (.int 105) = σ54 at hB ⊢
  refine v_dup C.1 rfl 294 rfl dX7_init_293 ?_
  refine v_bipush C.1 34 rfl 296 rfl dX7_init_294 ?_
  refine v_bipush C.1 99 rfl 298 rfl dX7_init_296 ?_
  refine v_iast C.1 34 ((hB.2.2.1 10 (Nat.le_of_ble_eq_true rfl)).1) (by decide) (by decide) 299 rfl dX7_init_298 ?_
  have hB : Blk G σ (pV _ b10 34 (.int 99)) _ _ _ _ := hB.put (i := 10) (Nat.le_of_ble_eq_true rfl) 34 (.int 99)
  generalize pV _ b10 34 (.int 99) = σ55 at hB ⊢
  refine v_dup C.1 rfl 300 rfl dX7_init_299 ?_
  refine v_bipush C.1 35 rfl 302 rfl dX7_init_300 ?_
  refine v_bipush C.1 107 rfl 304 rfl dX7_init_302 ?_
  refine v_iast C.1 35 ((hB.2.2.1 10 (Nat.le_of_ble_eq_true rfl)).1) (by decide) (by decide) 305 rfl dX7_init_304 ?_
  have hB : Blk G σ (pV _ b10 35 (.int 107)) _ _ _ _ := hB.put (i := 10) (Nat.le_of_ble_eq_true rfl) 35 (.int 107)
  generalize pV _ b10 35 (.int 107) = σ56 at hB ⊢
  refine v_dup C.1 rfl 306 rfl dX7_init_305 ?_
  refine v_bipush C.1 36 rfl 308 rfl dX7_init_306 ?_
  refine v_bipush C.1 32 rfl 310 rfl dX7_init_308 ?_
  refine v_iast C.1 36 ((hB.2.2.1 10 (Nat.le_of_ble_eq_true rfl)).1) (by decide) (by decide) 311 rfl dX7_init_310 ?_
  have hB : Blk G σ (pV _ b10 36 (.int 32)) _ _ _ _ := hB.put (i := 10) (Nat.le_of_ble_eq_true rfl) 36 (.int 32)
  generalize pV _ b10 36 (.int 32) = σ57 at hB ⊢
  refine v_dup C.1 rfl 312 rfl dX7_init_311 ?_
  refine v_bipush C.1 37 rfl 314 rfl dX7_init_312 ?_
  refine v_bipush C.1 111 rfl 316 rfl dX7_init_314 ?_
  refine v_iast C.1 37 ((hB.2.2.1 10 (Nat.le_of_ble_eq_true rfl)).1) (by decide) (by decide) 317 rfl dX7_init_316 ?_
  have hB : Blk G σ (pV _ b10 37 (.int 111)) _ _ _ _ := hB.put (i := 10) (Nat.le_of_ble_eq_true rfl) 37 (.int 111)
  generalize pV _ b10 37 (.int 111) = σ58 at hB ⊢
  refine v_dup C.1 rfl 318 rfl dX7_init_317 ?_
  refine v_bipush C.1 38 rfl 320 rfl dX7_init_318 ?_
  refine v_bipush C.1 114 rfl 322 rfl dX7_init_320 ?_
  refine v_iast C.1 38 ((hB.2.2.1 10 (Nat.le_of_ble_eq_true rfl)).1) (by decide) (by decide) 323 rfl dX7_init_322 ?_
  have hB : Blk G σ (pV _ b10 38 (.int 114)) _ _ _ _ := hB.put (i := 10) (Nat.le_of_ble_eq_true rfl) 38 (.int 114)
  generalize pV _ b10 38 (.int 114) = σ59 at hB ⊢
  refine v_dup C.1 rfl 324 rfl dX7_init_323 ?_
  refine v_bipush C.1 39 rfl 326 rfl dX7_init_324 ?_
  refine v_bipush C.1 100 rfl 328 rfl dX7_init_326 ?_
  refine v_iast C.1 39 ((hB.2.2.1 10 (Nat.le_of_ble_eq_true rfl)).1) (by decide) (by decide) 329 rfl dX7_init_328 ?_
  have hB : Blk G σ (pV _ b10 39 (.int 100)) _ _ _ _ := hB.put (i := 10) (Nat.le_of_ble_eq_true rfl) 39 (.int 100)
  generalize pV _ b10 39 (.int 100) = σ60 at hB ⊢
  refine v_dup C.1 rfl 330 rfl dX7_init_329 ?_
  refine v_bipush C.1 40 rfl 332 rfl dX7_init_330 ?_
  refine v_bipush C.1 101 rfl 334 rfl dX7_init_332 ?_
  refine v_iast C.1 40 ((hB.2.2.1 10 (Nat.le_of_ble_eq_true rfl)).1) (by decide) (by decide) 335 rfl dX7_init_334 ?_
  have hB : Blk G σ (pV _ b10 40 (.int 101)) _ _ _ _ := hB.put (i := 10) (Nat.le_of_ble_eq_true rfl) 40 (.int 101)
  generalize pV _ b10 40 (.int 101) = σ61 at hB ⊢
  refine v_dup C.1 rfl 336 rfl dX7_init_335 ?_
  refine v_bipush C.1 41 rfl 338 rfl dX7_init_336 ?_
  refine v_bipush C.1 114 rfl 340 rfl dX7_init_338 ?_
  refine v_iast C.1 41 ((hB.2.2.1 10 (Nat.le_of_ble_eq_true rfl)).1) (by decide) (by decide) 341 rfl dX7_init_340 ?_
  have hB : Blk G σ (pV _ b10 41 (.int 114)) _ _ _ _ := hB.put (i := 10) (Nat.le_of_ble_eq_true rfl) 41 (.int 114)
  generalize pV _ b10 41 (.int 114) = σ62 at hB ⊢
  refine v_dup C.1 rfl 342 rfl dX7_init_341 ?_
  refine v_bipush C.1 42 rfl 344 rfl dX7_init_342 ?_
  refine v_bipush C.1 32 rfl 346 rfl dX7_init_344 ?_
  refine v_iast C.1 42 ((hB.2.2.1 10 (Nat.le_of_ble_eq_true rfl)).1) (by decide) (by decide) 347 rfl dX7_init_346 ?_
  have hB : Blk G σ (pV _ b10 42 (.int 32)) _ _ _ _ := hB.put (i := 10) (Nat.le_of_ble_eq_true rfl) 42 (.int 32)
  generalize pV _ b10 42 (.int 32) = σ63 at hB ⊢
  refine v_dup C.1 rfl 348 rfl dX7_init_347 ?_
  refine v_bipush C.1 43 rfl 350 rfl dX7_init_348 ?_
  refine v_bipush C.1 100 rfl 352 rfl dX7_init_350 ?_
  refine v_iast C.1 43 ((hB.2.2.1 10 (Nat.le_of_ble_eq_true rfl)).1) (by decide) (by decide) 353 rfl dX7_init_352 ?_
  have hB : Blk G σ (pV _ b10 43 (.int 100)) _ _ _ _ := hB.put (i := 10) (Nat.le_of_ble_eq_true rfl) 43 (.int 100)
  generalize pV _ b10 43 (.int 100) = σ64 at hB ⊢
  refine v_dup C.1 rfl 354 rfl dX7_init_353 ?_
  refine v_bipush C.1 44 rfl 356 rfl dX7_init_354 ?_
  refine v_bipush C.1 101 rfl 358 rfl dX7_init_356 ?_
  refine v_iast C.1 44 ((hB.2.2.1 10 (Nat.le_of_ble_eq_true rfl)).1) (by decide) (by decide) 359 rfl dX7_init_358 ?_
  have hB : Blk G σ (pV _ b10 44 (.int 101)) _ _ _ _ := hB.put (i := 10) (Nat.le_of_ble_eq_true rfl) 44 (.int 101)
  generalize pV _ b10 44 (.int 101) = σ65 at hB ⊢
  refine v_dup C.1 rfl 360 rfl dX7_init_359 ?_
  refine v_bipush C.1 45 rfl 362 rfl dX7_init_360 ?_
  refine v_bipush C.1 108 rfl 364 rfl dX7_init_362 ?_
  refine v_iast C.1 45 ((hB.2.2.1 10 (Nat.le_of_ble_eq_true rfl)).1) (by decide) (by decide) 365 rfl dX7_init_364 ?_
  have hB : Blk G σ (pV _ b10 45 (.int 108)) _ _ _ _ := hB.put (i := 10) (Nat.le_of_ble_eq_true rfl) 45 (.int 108)
  generalize pV _ b10 45 (.int 108) = σ66 at hB ⊢
  refine v_dup C.1 rfl 366 rfl dX7_init_365 ?_
  refine v_bipush C.1 46 rfl 368 rfl dX7_init_366 ?_
  refine v_bipush C.1 105 rfl 370 rfl dX7_init_368 ?_
  refine v_iast C.1 46 ((hB.2.2.1 10 (Nat.le_of_ble_eq_true rfl)).1) (by decide) (by decide) 371 rfl dX7_init_370 ?_
  have hB : Blk G σ (pV _ b10 46 (.int 105)) _ _ _ _ := hB.put (i := 10) (Nat.le_of_ble_eq_true rfl) 46 (.int 105)
  generalize pV _ b10 46 (.int 105) = σ67 at hB ⊢
  refine v_dup C.1 rfl 372 rfl dX7_init_371 ?_
  refine v_bipush C.1 47 rfl 374 rfl dX7_init_372 ?_
  refine v_bipush C.1 118 rfl 376 rfl dX7_init_374 ?_
  refine v_iast C.1 47 ((hB.2.2.1 10 (Nat.le_of_ble_eq_true rfl)).1) (by decide) (by decide) 377 rfl dX7_init_376 ?_
  have hB : Blk G σ (pV _ b10 47 (.int 118)) _ _ _ _ := hB.put (i := 10) (Nat.le_of_ble_eq_true rfl) 47 (.int 118)
  generalize pV _ b10 47 (.int 118) = σ68 at hB ⊢
  refine v_dup C.1 rfl 378 rfl dX7_init_377 ?_
  refine v_bipush C.1 48 rfl 380 rfl dX7_init_378 ?_
  refine v_bipush C.1 101 rfl 382 rfl dX7_init_380 ?_
  refine v_iast C.1 48 ((hB.2.2.1 10 (Nat.le_of_ble_eq_true rfl)).1) (by decide) (by decide) 383 rfl dX7_init_382 ?_
  have hB : Blk G σ (pV _ b10 48 (.int 101)) _ _ _ _ := hB.put (i := 10) (Nat.le_of_ble_eq_true rfl) 48 (.int 101)
  generalize pV _ b10 48 (.int 101) = σ69 at hB ⊢
  refine v_dup C.1 rfl 384 rfl dX7_init_383 ?_
  refine v_bipush C.1 49 rfl 386 rfl dX7_init_384 ?_
  refine v_bipush C.1 114 rfl 388 rfl dX7_init_386 ?_
  refine v_iast C.1 49 ((hB.2.2.1 10 (Nat.le_of_ble_eq_true rfl)).1) (by decide) (by decide) 389 rfl dX7_init_388 ?_
  have hB : Blk G σ (pV _ b10 49 (.int 114)) _ _ _ _ := hB.put (i := 10) (Nat.le_of_ble_eq_true rfl) 49 (.int 114)
  generalize pV _ b10 49 (.int 114) = σ70 at hB ⊢
  refine v_dup C.1 rfl 390 rfl dX7_init_389 ?_
  refine v_bipush C.1 50 rfl 392 rfl dX7_init_390 ?_
  refine v_bipush C.1 32 rfl 394 rfl dX7_init_392 ?_
  refine v_iast C.1 50 ((hB.2.2.1 10 (Nat.le_of_ble_eq_true rfl)).1) (by decide) (by decide) 395 rfl dX7_init_394 ?_
  have hB : Blk G σ (pV _ b10 50 (.int 32)) _ _ _ _ := hB.put (i := 10) (Nat.le_of_ble_eq_true rfl) 50 (.int 32)
  generalize pV _ b10 50 (.int 32) = σ71 at hB ⊢
  refine v_dup C.1 rfl 396 rfl dX7_init_395 ?_
  refine v_bipush C.1 51 rfl 398 rfl dX7_init_396 ?_
  refine v_bipush C.1 115 rfl 400 rfl dX7_init_398 ?_
  refine v_iast C.1 51 ((hB.2.2.1 10 (Nat.le_of_ble_eq_true rfl)).1) (by decide) (by decide) 401 rfl dX7_init_400 ?_
  have hB : Blk G σ (pV _ b10 51 (.int 115)) _ _ _ _ := hB.put (i := 10) (Nat.le_of_ble_eq_true rfl) 51 (.int 115)
  generalize pV _ b10 51 (.int 115) = σ72 at hB ⊢
  refine v_dup C.1 rfl 402 rfl dX7_init_401 ?_
  refine v_bipush C.1 52 rfl 404 rfl dX7_init_402 ?_
  refine v_bipush C.1 99 rfl 406 rfl dX7_init_404 ?_
  refine v_iast C.1 52 ((hB.2.2.1 10 (Nat.le_of_ble_eq_true rfl)).1) (by decide) (by decide) 407 rfl dX7_init_406 ?_
  have hB : Blk G σ (pV _ b10 52 (.int 99)) _ _ _ _ := hB.put (i := 10) (Nat.le_of_ble_eq_true rfl) 52 (.int 99)
  generalize pV _ b10 52 (.int 99) = σ73 at hB ⊢
  refine v_dup C.1 rfl 408 rfl dX7_init_407 ?_
  refine v_bipush C.1 53 rfl 410 rfl dX7_init_408 ?_
  refine v_bipush C.1 114 rfl 412 rfl dX7_init_410 ?_
  refine v_iast C.1 53 ((hB.2.2.1 10 (Nat.le_of_ble_eq_true rfl)).1) (by decide) (by decide) 413 rfl dX7_init_412 ?_
  have hB : Blk G σ (pV _ b10 53 (.int 114)) _ _ _ _ := hB.put (i := 10) (Nat.le_of_ble_eq_true rfl) 53 (.int 114)
  generalize pV _ b10 53 (.int 114) = σ74 at hB ⊢
  refine v_dup C.1 rfl 414 rfl dX7_init_413 ?_
  refine v_bipush C.1 54 rfl 416 rfl dX7_init_414 ?_
  refine v_bipush C.1 97 rfl 418 rfl dX7_init_416 ?_
  refine v_iast C.1 54 ((hB.2.2.1 10 (Nat.le_of_ble_eq_true rfl)).1) (by decide) (by decide) 419 rfl dX7_init_418 ?_
  have hB : Blk G σ (pV _ b10 54 (.int 97)) _ _ _ _ := hB.put (i := 10) (Nat.le_of_ble_eq_true rfl) 54 (.int 97)
  generalize pV _ b10 54 (.int 97) = σ75 at hB ⊢
  refine v_dup C.1 rfl 420 rfl dX7_init_419 ?_
  refine v_bipush C.1 55 rfl 422 rfl dX7_init_420 ?_
  refine v_bipush C.1 112 rfl 424 rfl dX7_init_422 ?_
  refine v_iast C.1 55 ((hB.2.2.1 10 (Nat.le_of_ble_eq_true rfl)).1) (by decide) (by decide) 425 rfl dX7_init_424 ?_
  have hB : Blk G σ (pV _ b10 55 (.int 112)) _ _ _ _ := hB.put (i := 10) (Nat.le_of_ble_eq_true rfl) 55 (.int 112)
  generalize pV _ b10 55 (.int 112) = σ76 at hB ⊢
  refine v_dup C.1 rfl 426 rfl dX7_init_425 ?_
  refine v_bipush C.1 56 rfl 428 rfl dX7_init_426 ?_
  refine v_bipush C.1 32 rfl 430 rfl dX7_init_428 ?_
  refine v_iast C.1 56 ((hB.2.2.1 10 (Nat.le_of_ble_eq_true rfl)).1) (by decide) (by decide) 431 rfl dX7_init_430 ?_
  have hB : Blk G σ (pV _ b10 56 (.int 32)) _ _ _ _ := hB.put (i := 10) (Nat.le_of_ble_eq_true rfl) 56 (.int 32)
  generalize pV _ b10 56 (.int 32) = σ77 at hB ⊢
  refine v_putF C.1 hN 14 fp_X7_44 rfl rfl ((hB.2.2.1 0 (Nat.le_of_ble_eq_true rfl)).1) 434 rfl dX7_init_431 ?_
  have hB : Blk G σ (pV _ a 14 (.ref b10)) _ _ _ _ := hB.put (i := 0) (Nat.le_of_ble_eq_true rfl) 14 (.ref b10)
  generalize pV _ a 14 (.ref b10) = σ78 at hB ⊢
  refine v_aload_n C.1 0 435 rfl dX7_init_434 rfl ?_
  refine v_bipush C.1 11 rfl 437 rfl dX7_init_435 ?_
  refine v_newa C.1 (t := 0) (N := 11) (by decide) rfl ar_0 (by decide) rfl (by decide) ⟨(Nat.le_of_ble_eq_true rfl), (Nat.le_of_ble_eq_true rfl)⟩ 11 5267 rfl rfl 439 rfl dX7_init_437 fun b11 hn11 => ?_
  rw [hG] at hn11
  have hB := hB.add (d := fun _ => defaultValue (j_aty 0)) hn11 (e := (2, 0, 11)) (Or.inr (Or.inl rfl))
  generalize jMade _ b11 (2, 0, 11) (fun _ => defaultValue (j_aty 0)) = σ79 at hB ⊢
  refine v_dup C.1 rfl 440 rfl dX7_init_439 ?_
  refine v_iconst C.1 0 rfl 441 rfl dX7_init_440 ?_
  refine v_iconst C.1 0 rfl 442 rfl dX7_init_441 ?_
  refine v_iast C.1 0 ((hB.2.2.1 11 (Nat.le_of_ble_eq_true rfl)).1) (by decide) (by decide) 443 rfl dX7_init_442 ?_
  have hB : Blk G σ (pV _ b11 0 (.int 0)) _ _ _ _ := hB.put (i := 11) (Nat.le_of_ble_eq_true rfl) 0 (.int 0)
  generalize pV _ b11 0 (.int 0) = σ80 at hB ⊢
  refine v_dup C.1 rfl 444 rfl dX7_init_443 ?_
  refine v_iconst C.1 1 rfl 445 rfl dX7_init_444 ?_
  refine v_iconst C.1 4 rfl 446 rfl dX7_init_445 ?_
  refine v_iast C.1 1 ((hB.2.2.1 11 (Nat.le_of_ble_eq_true rfl)).1) (by decide) (by decide) 447 rfl dX7_init_446 ?_
  have hB : Blk G σ (pV _ b11 1 (.int 4)) _ _ _ _ := hB.put (i := 11) (Nat.le_of_ble_eq_true rfl) 1 (.int 4)
  generalize pV _ b11 1 (.int 4) = σ81 at hB ⊢
  refine v_dup C.1 rfl 448 rfl dX7_init_447 ?_
  refine v_iconst C.1 2 rfl 449 rfl dX7_init_448 ?_
  refine v_bipush C.1 13 rfl 451 rfl dX7_init_449 ?_
  refine v_iast C.1 2 ((hB.2.2.1 11 (Nat.le_of_ble_eq_true rfl)).1) (by decide) (by decide) 452 rfl dX7_init_451 ?_
  have hB : Blk G σ (pV _ b11 2 (.int 13)) _ _ _ _ := hB.put (i := 11) (Nat.le_of_ble_eq_true rfl) 2 (.int 13)
  generalize pV _ b11 2 (.int 13) = σ82 at hB ⊢
  refine v_dup C.1 rfl 453 rfl dX7_init_452 ?_
  refine v_iconst C.1 3 rfl 454 rfl dX7_init_453 ?_
  refine v_bipush C.1 17 rfl 456 rfl dX7_init_454 ?_
  refine v_iast C.1 3 ((hB.2.2.1 11 (Nat.le_of_ble_eq_true rfl)).1) (by decide) (by decide) 457 rfl dX7_init_456 ?_
  have hB : Blk G σ (pV _ b11 3 (.int 17)) _ _ _ _ := hB.put (i := 11) (Nat.le_of_ble_eq_true rfl) 3 (.int 17)
  generalize pV _ b11 3 (.int 17) = σ83 at hB ⊢
  refine v_dup C.1 rfl 458 rfl dX7_init_457 ?_
  refine v_iconst C.1 4 rfl 459 rfl dX7_init_458 ?_
  refine v_bipush C.1 22 rfl 461 rfl dX7_init_459 ?_
  refine v_iast C.1 4 ((hB.2.2.1 11 (Nat.le_of_ble_eq_true rfl)).1) (by decide) (by decide) 462 rfl dX7_init_461 ?_
  have hB : Blk G σ (pV _ b11 4 (.int 22)) _ _ _ _ := hB.put (i := 11) (Nat.le_of_ble_eq_true rfl) 4 (.int 22)
  generalize pV _ b11 4 (.int 22) = σ84 at hB ⊢
  refine v_dup C.1 rfl 463 rfl dX7_init_462 ?_
  refine v_iconst C.1 5 rfl 464 rfl dX7_init_463 ?_
  refine v_bipush C.1 26 rfl 466 rfl dX7_init_464 ?_
  refine v_iast C.1 5 ((hB.2.2.1 11 (Nat.le_of_ble_eq_true rfl)).1) (by decide) (by decide) 467 rfl dX7_init_466 ?_
  have hB : Blk G σ (pV _ b11 5 (.int 26)) _ _ _ _ := hB.put (i := 11) (Nat.le_of_ble_eq_true rfl) 5 (.int 26)
  generalize pV _ b11 5 (.int 26) = σ85 at hB ⊢
  refine v_dup C.1 rfl 468 rfl dX7_init_467 ?_
  refine v_bipush C.1 6 rfl 470 rfl dX7_init_468 ?_
  refine v_bipush C.1 30 rfl 472 rfl dX7_init_470 ?_
  refine v_iast C.1 6 ((hB.2.2.1 11 (Nat.le_of_ble_eq_true rfl)).1) (by decide) (by decide) 473 rfl dX7_init_472 ?_
  have hB : Blk G σ (pV _ b11 6 (.int 30)) _ _ _ _ := hB.put (i := 11) (Nat.le_of_ble_eq_true rfl) 6 (.int 30)
  generalize pV _ b11 6 (.int 30) = σ86 at hB ⊢
  refine v_dup C.1 rfl 474 rfl dX7_init_473 ?_
  refine v_bipush C.1 7 rfl 476 rfl dX7_init_474 ?_
  refine v_bipush C.1 37 rfl 478 rfl dX7_init_476 ?_
  refine v_iast C.1 7 ((hB.2.2.1 11 (Nat.le_of_ble_eq_true rfl)).1) (by decide) (by decide) 479 rfl dX7_init_478 ?_
  have hB : Blk G σ (pV _ b11 7 (.int 37)) _ _ _ _ := hB.put (i := 11) (Nat.le_of_ble_eq_true rfl) 7 (.int 37)
  generalize pV _ b11 7 (.int 37) = σ87 at hB ⊢
  refine v_dup C.1 rfl 480 rfl dX7_init_479 ?_
  refine v_bipush C.1 8 rfl 482 rfl dX7_init_480 ?_
  refine v_bipush C.1 43 rfl 484 rfl dX7_init_482 ?_
  refine v_iast C.1 8 ((hB.2.2.1 11 (Nat.le_of_ble_eq_true rfl)).1) (by decide) (by decide) 485 rfl dX7_init_484 ?_
  have hB : Blk G σ (pV _ b11 8 (.int 43)) _ _ _ _ := hB.put (i := 11) (Nat.le_of_ble_eq_true rfl) 8 (.int 43)
  generalize pV _ b11 8 (.int 43) = σ88 at hB ⊢
  refine v_dup C.1 rfl 486 rfl dX7_init_485 ?_
  refine v_bipush C.1 9 rfl 488 rfl dX7_init_486 ?_
  refine v_bipush C.1 51 rfl 490 rfl dX7_init_488 ?_
  refine v_iast C.1 9 ((hB.2.2.1 11 (Nat.le_of_ble_eq_true rfl)).1) (by decide) (by decide) 491 rfl dX7_init_490 ?_
  have hB : Blk G σ (pV _ b11 9 (.int 51)) _ _ _ _ := hB.put (i := 11) (Nat.le_of_ble_eq_true rfl) 9 (.int 51)
  generalize pV _ b11 9 (.int 51) = σ89 at hB ⊢
  refine v_dup C.1 rfl 492 rfl dX7_init_491 ?_
  refine v_bipush C.1 10 rfl 494 rfl dX7_init_492 ?_
  refine v_bipush C.1 57 rfl 496 rfl dX7_init_494 ?_
  refine v_iast C.1 10 ((hB.2.2.1 11 (Nat.le_of_ble_eq_true rfl)).1) (by decide) (by decide) 497 rfl dX7_init_496 ?_
  have hB : Blk G σ (pV _ b11 10 (.int 57)) _ _ _ _ := hB.put (i := 11) (Nat.le_of_ble_eq_true rfl) 10 (.int 57)
  generalize pV _ b11 10 (.int 57) = σ90 at hB ⊢
  refine v_putF C.1 hN 15 fp_X7_47 rfl rfl ((hB.2.2.1 0 (Nat.le_of_ble_eq_true rfl)).1) 500 rfl dX7_init_497 ?_
  have hB : Blk G σ (pV _ a 15 (.ref b11)) _ _ _ _ := hB.put (i := 0) (Nat.le_of_ble_eq_true rfl) 15 (.ref b11)
  generalize pV _ a 15 (.ref b11) = σ91 at hB ⊢
  have hP : Blk G σ (jPro _ a (1, 11, 22)) _ _ _ _ := hB.pro (i := 0) (Nat.le_of_ble_eq_true rfl) (e := (1, 11, 22)) (Or.inl rfl)
  refine v_pro ((hB.2.2.1 0 (Nat.le_of_ble_eq_true rfl)).1) (fun j hj => ?_) ?_
  · by_cases z : 5 ≤ j ∧ j < 16
    · have hc : j = 5 ∨ j = 6 ∨ j = 7 ∨ j = 8 ∨ j = 9 ∨ j = 10 ∨ j = 11 ∨ j = 12 ∨ j = 13 ∨ j = 14 ∨ j = 15 := by omega
      rcases hc with z | z | z | z | z | z | z | z | z | z | z <;> subst z
      · exact ⟨_, (hB.2.2.1 0 (Nat.le_of_ble_eq_true rfl)).2 5, (hP.2.2.1 1 (Nat.le_of_ble_eq_true rfl)).1⟩
      · exact ⟨_, (hB.2.2.1 0 (Nat.le_of_ble_eq_true rfl)).2 6, (hP.2.2.1 2 (Nat.le_of_ble_eq_true rfl)).1⟩
      · exact ⟨_, (hB.2.2.1 0 (Nat.le_of_ble_eq_true rfl)).2 7, (hP.2.2.1 3 (Nat.le_of_ble_eq_true rfl)).1⟩
      · exact ⟨_, (hB.2.2.1 0 (Nat.le_of_ble_eq_true rfl)).2 8, (hP.2.2.1 4 (Nat.le_of_ble_eq_true rfl)).1⟩
      · exact ⟨_, (hB.2.2.1 0 (Nat.le_of_ble_eq_true rfl)).2 9, (hP.2.2.1 5 (Nat.le_of_ble_eq_true rfl)).1⟩
      · exact ⟨_, (hB.2.2.1 0 (Nat.le_of_ble_eq_true rfl)).2 10, (hP.2.2.1 6 (Nat.le_of_ble_eq_true rfl)).1⟩
      · exact ⟨_, (hB.2.2.1 0 (Nat.le_of_ble_eq_true rfl)).2 11, (hP.2.2.1 7 (Nat.le_of_ble_eq_true rfl)).1⟩
      · exact ⟨_, (hB.2.2.1 0 (Nat.le_of_ble_eq_true rfl)).2 12, (hP.2.2.1 8 (Nat.le_of_ble_eq_true rfl)).1⟩
      · exact ⟨_, (hB.2.2.1 0 (Nat.le_of_ble_eq_true rfl)).2 13, (hP.2.2.1 9 (Nat.le_of_ble_eq_true rfl)).1⟩
      · exact ⟨_, (hB.2.2.1 0 (Nat.le_of_ble_eq_true rfl)).2 14, (hP.2.2.1 10 (Nat.le_of_ble_eq_true rfl)).1⟩
      · exact ⟨_, (hB.2.2.1 0 (Nat.le_of_ble_eq_true rfl)).2 15, (hP.2.2.1 11 (Nat.le_of_ble_eq_true rfl)).1⟩
    · have hc : j = 0 ∨ j = 1 ∨ j = 2 ∨ j = 3 ∨ j = 4 ∨ j = 16 ∨ j = 17 ∨ j = 18 ∨ j = 19 ∨ j = 20 ∨ j = 21 := by omega
      rcases hc with z0 | z0 | z0 | z0 | z0 | z0 | z0 | z0 | z0 | z0 | z0 <;> subst z0
      · obtain ⟨x, e⟩ := hz 0 (by decide) z
        exact ⟨x, ((hB.2.2.1 0 (Nat.le_of_ble_eq_true rfl)).2 0).trans e⟩
      · obtain ⟨x, e⟩ := hz 1 (by decide) z
        exact ⟨x, ((hB.2.2.1 0 (Nat.le_of_ble_eq_true rfl)).2 1).trans e⟩
      · exact ⟨_, (hB.2.2.1 0 (Nat.le_of_ble_eq_true rfl)).2 2⟩
      · exact ⟨_, (hB.2.2.1 0 (Nat.le_of_ble_eq_true rfl)).2 3⟩
      · obtain ⟨x, e⟩ := hz 4 (by decide) z
        exact ⟨x, ((hB.2.2.1 0 (Nat.le_of_ble_eq_true rfl)).2 4).trans e⟩
      · obtain ⟨x, e⟩ := hz 16 (by decide) z
        exact ⟨x, ((hB.2.2.1 0 (Nat.le_of_ble_eq_true rfl)).2 16).trans e⟩
      · obtain ⟨x, e⟩ := hz 17 (by decide) z
        exact ⟨x, ((hB.2.2.1 0 (Nat.le_of_ble_eq_true rfl)).2 17).trans e⟩
      · obtain ⟨x, e⟩ := hz 18 (by decide) z
        exact ⟨x, ((hB.2.2.1 0 (Nat.le_of_ble_eq_true rfl)).2 18).trans e⟩
      · obtain ⟨x, e⟩ := hz 19 (by decide) z
        exact ⟨x, ((hB.2.2.1 0 (Nat.le_of_ble_eq_true rfl)).2 19).trans e⟩
      · obtain ⟨x, e⟩ := hz 20 (by decide) z
        exact ⟨x, ((hB.2.2.1 0 (Nat.le_of_ble_eq_true rfl)).2 20).trans e⟩
      · obtain ⟨x, e⟩ := hz 21 (by decide) z
        exact ⟨x, ((hB.2.2.1 0 (Nat.le_of_ble_eq_true rfl)).2 21).trans e⟩
  · refine v_vret C (Nat.le_of_ble_eq_true rfl) (Nat.le_of_ble_eq_true rfl) dX7_init_500 ?_
    rw [ho]
    refine ⟨rfl, _, _, rfl, hP.to (fun _ _ => rfl) (fun i hi => ?_) (fun _ _ _ => rfl), rfl, rfl, rfl, rfl, rfl, rfl, rfl, rfl, rfl, rfl, rfl, rfl, rfl, fun k hk => ?_, fun i k i1 i2 => ?_, fun k hk => ?_, fun k hk => ?_⟩
    · have hc : i = 0 ∨ i = 1 ∨ i = 2 ∨ i = 3 ∨ i = 4 ∨ i = 5 ∨ i = 6 ∨ i = 7 ∨ i = 8 ∨ i = 9 ∨ i = 10 ∨ i = 11 := by omega
      rcases hc with z | z | z | z | z | z | z | z | z | z | z | z <;> subst z <;> rfl
    · simp [updW, catF, hk]
    · have hc : i = 1 ∨ i = 2 ∨ i = 3 ∨ i = 4 ∨ i = 5 ∨ i = 6 ∨ i = 7 ∨ i = 8 ∨ i = 9 := by omega
      rcases hc with z | z | z | z | z | z | z | z | z <;> subst z <;> rfl
    · have hc : k = 0 ∨ k = 1 ∨ k = 2 ∨ k = 3 ∨ k = 4 ∨ k = 5 ∨ k = 6 ∨ k = 7 ∨ k = 8 ∨ k = 9 ∨ k = 10 ∨ k = 11 ∨ k = 12 ∨ k = 13 ∨ k = 14 ∨ k = 15 ∨ k = 16 ∨ k = 17 ∨ k = 18 ∨ k = 19 ∨ k = 20 ∨ k = 21 ∨ k = 22 ∨ k = 23 ∨ k = 24 ∨ k = 25 ∨ k = 26 ∨ k = 27 ∨ k = 28 ∨ k = 29 ∨ k = 30 ∨ k = 31 ∨ k = 32 ∨ k = 33 ∨ k = 34 ∨ k = 35 ∨ k = 36 ∨ k = 37 ∨ k = 38 ∨ k = 39 ∨ k = 40 ∨ k = 41 ∨ k = 42 ∨ k = 43 ∨ k = 44 ∨ k = 45 ∨ k = 46 ∨ k = 47 ∨ k = 48 ∨ k = 49 ∨ k = 50 ∨ k = 51 ∨ k = 52 ∨ k = 53 ∨ k = 54 ∨ k = 55 ∨ k = 56 := by omega
      rcases hc with z | z | z | z | z | z | z | z | z | z | z | z | z | z | z | z | z | z | z | z | z | z | z | z | z | z | z | z | z | z | z | z | z | z | z | z | z | z | z | z | z | z | z | z | z | z | z | z | z | z | z | z | z | z | z | z | z <;> subst z <;> rfl
    · have hc : k = 0 ∨ k = 1 ∨ k = 2 ∨ k = 3 ∨ k = 4 ∨ k = 5 ∨ k = 6 ∨ k = 7 ∨ k = 8 ∨ k = 9 ∨ k = 10 := by omega
      rcases hc with z | z | z | z | z | z | z | z | z | z | z <;> subst z <;> rfl
