/-! ===== checkIndex ===== -/
section JCHK
variable {F : jFm} {own : String} {cc : ByteArray} {nL k1 k2 fr mc ms lo pc : Nat} {κ : jKt} {lv : List (Nat × Value)} {st : List Value}
theorem r_gpre (C : jA F own cc nL fr mc ms lo) {index : Nat} (hf : Cond.fieldLink own index "jdk/internal/util/Preconditions" "SIOOBE_FORMATTER" "Ljava/util/function/BiFunction;" ∈ TB) (p1 : Nat) (hp : pc + 3 = p1) (hd : decode cc pc = .ok (.getstatic index, 3)) (kk : ∀ v : Value, (v = .null ∨ ∃ t, v = .ref t) → jW F nL k1 k2 κ p1 lv (v :: st)) : jW F nL k1 k2 κ pc lv st := by
  obtain ⟨p, l, e, R, s, m, args, below, meth, c, G, sh, Qr, Qx, mc, ms, Q⟩ := F
  subst hp
  intro H9 locs9 ls9 hR hL hv
  rcases C.1.2.2.2.2.2.2.2.2.2.2.2.2 with hz | ⟨t, hz⟩
  · obtain ⟨cf, kf, fi, f, a, cell, h1, h2, h3, h4, h5, h6, h7, h8⟩ := hz.kept (fun a ha _ => hR.1.1.1 a ha)
    exact W.gets C.1.1.1 C.1.1.2.1 C.1.1.2.2.2.1 (C.1.1.2.2.2.2 _ hf) h1 h2 h3 h4 h5 (fun e => by rw [e] at h6; cases h6) h7 rfl hd (kk .null (Or.inl rfl) H9 locs9 ls9 hR hL hv)
  · obtain ⟨cf, kf, fi, f, a, cell, h1, h2, h3, h4, h5, h6, h7, h8⟩ := hz.kept (fun a ha _ => hR.1.1.1 a ha)
    exact W.gets C.1.1.1 C.1.1.2.1 C.1.1.2.2.2.1 (C.1.1.2.2.2.2 _ hf) h1 h2 h3 h4 h5 (fun e => by rw [e] at h6; cases h6) h7 rfl hd (kk (.ref t) (Or.inr ⟨t, rfl⟩) H9 locs9 ls9 hR hL hv)
end JCHK
theorem c_preck {l : Launch} {G : jG} {sh : jSh} {κ : jKt} {i n : Int32} {v : Value} (hv : v = .null ∨ ∃ t, v = .ref t) (h0 : ¬ i < 0) (h1 : i < n) : jM l G yJ3_checkIndex_8e157 cJ3_checkIndex_8e157 3 (some .int) 0 0 0 0 [.int i, .int n, v] (sh, κ) (jIs (some (.int i)) (sh, κ)) jNo := by
  have key : ∀ F : jFm, jB F yJ3_checkIndex_8e157.cls cJ3_checkIndex_8e157 3 (some .int) 0 0 0 0 → jSof F = sh → (∀ r κ', jOut F r κ' = jIs (some (.int i)) (sh, κ) r (sh, κ')) → jW F 3 0 0 κ 0 [(0, .int i), (1, .int n), (2, v)] [] := fun F C hs ho => by
    refine r_iload_n C.1 0 1 rfl dJ3_checkIndex_8e157_0 rfl ?_
    refine r_if_lt C.1 9 4 rfl dJ3_checkIndex_8e157_1 rfl ⟨fun g => absurd g h0, fun _ => ?_⟩
    refine r_iload_n C.1 0 5 rfl dJ3_checkIndex_8e157_4 rfl ?_
    refine r_iload_n C.1 1 6 rfl dJ3_checkIndex_8e157_5 rfl ?_
    refine r_icmp_lt C.1 16 9 rfl dJ3_checkIndex_8e157_6 rfl ⟨fun _ => ?_, fun g => absurd h1 g⟩
    refine r_iload_n C.1 0 17 rfl dJ3_checkIndex_8e157_16 rfl ?_
    exact r_zret C rfl rfl (Nat.le_of_ble_eq_true rfl) (Nat.le_of_ble_eq_true rfl) dJ3_checkIndex_8e157_17 (by rw [ho]; exact ⟨rfl, rfl⟩)
  rcases hv with rfl | ⟨t, rfl⟩
  · exact r_body (by decide) (Nat.le_of_ble_eq_true rfl) fun F C hl hG hs ho hx => key F C hs ho
  · exact r_body (by decide) (Nat.le_of_ble_eq_true rfl) fun F C hl hG hs ho hx => key F C hs ho
def P_J0_checkIndex_df160 (_ : jKt) (x0 x1 : Int32) : Option Unit := ck (¬ x0 < 0) <| ck (x0 < x1) <| some ()
theorem yv_preck : jYS yJ3_checkIndex_8e157 cJ3_checkIndex_8e157 3 (some .int) 3 := ⟨TB_at (i := 1460) (by decide +kernel) (by decide +kernel), TB_at (i := 114) (by decide +kernel) (by decide +kernel), TB_at (i := 1461) (by decide +kernel) (by decide +kernel), ⟨by decide +kernel, by decide +kernel⟩, by decide +kernel⟩
theorem ml_preck : Cond.methodLink RJ0 1059 yJ3_checkIndex_8e157 ∈ TB := TB_at (i := 1459) (by decide +kernel) (by decide +kernel)
theorem fs_preck : Cond.fieldLink RJ0 1053 "jdk/internal/util/Preconditions" "SIOOBE_FORMATTER" "Ljava/util/function/BiFunction;" ∈ TB := TB_at (i := 1261) (by decide +kernel) (by decide +kernel)
theorem c_J0_checkIndex_df160 {l : Launch} {G : jG} {sh : jSh} {κ : jKt} {x0 x1 : Int32} {r : Unit} (h : P_J0_checkIndex_df160 κ x0 x1 = some r) : jM l G yJ0_checkIndex_df160 cJ0_checkIndex_df160 2 none 1 0 0 22 [.int x0, .int x1] (sh, κ) (jIs none (sh, κ)) jNo := by
  obtain ⟨h0, h⟩ := ck_some h
  obtain ⟨h1, h⟩ := ck_some h
  refine r_body (by decide) (Nat.le_of_ble_eq_true rfl) fun F C hl hG hs ho hx => ?_
  subst hs
  show jW F 2 0 0 κ 0 [(0, .int x0), (1, .int x1)] []
  refine r_iload_n C.1 0 1 rfl dJ0_checkIndex_df160_0 rfl ?_
  refine r_iload_n C.1 1 2 rfl dJ0_checkIndex_df160_1 rfl ?_
  refine r_gpre C.1 fs_preck 5 rfl dJ0_checkIndex_df160_2 (fun v hv => ?_)
  refine r_cSi C.1 (st := []) (c_preck hv h0 h1) yv_preck ml_preck rfl ⟨Nat.le_of_ble_eq_true rfl, Nat.le_of_ble_eq_true rfl⟩ ⟨Nat.le_of_ble_eq_true rfl, Nat.le_of_ble_eq_true rfl⟩ (Nat.le_of_ble_eq_true rfl) rfl 0 0 rfl rfl 8 rfl dJ0_checkIndex_df160_5 ?_
  refine r_pop C.1 rfl 9 rfl dJ0_checkIndex_df160_8 ?_
  exact r_vret C rfl (Nat.le_of_ble_eq_true rfl) (Nat.le_of_ble_eq_true rfl) dJ0_checkIndex_df160_9 (by rw [ho]; exact ⟨rfl, rfl⟩)
