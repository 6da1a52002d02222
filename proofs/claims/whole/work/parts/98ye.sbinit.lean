/-! ===== the constructor of StringBuilder ===== -/
theorem sb_wc : jFlw RJ5 22 1 4 1 .byte := ⟨RJ4, TJ4, tyJ4, rfl, sb_in, tyJ4_ok, nmJ4, by decide, rfl, rfl, Or.inl (TB_in (by decide +kernel) (by decide +kernel))⟩
theorem sb_oi : Cond.methodLink RJ5 3 Lib.objectInit ∈ TB := (TB_in (by decide +kernel) (by decide +kernel))
theorem yi_J5 : jYI yJ5_init_d00df cJ5_init_d00df 2 1 := ⟨(TB_in (by decide +kernel) (by decide +kernel)), rfl, (TB_in (by decide +kernel) (by decide +kernel)), (TB_in (by decide +kernel) (by decide +kernel)), ⟨by decide +kernel, by decide +kernel⟩, by decide +kernel⟩
theorem mi_J4 : Cond.methodLink RJ4 1 yJ5_init_d00df ∈ TB ∨ ∃ host, Cond.methodLinkNest RJ4 1 yJ5_init_d00df host ∈ TB := Or.inl (TB_in (by decide +kernel) (by decide +kernel))
theorem v_gcs {F : jFm} {own : String} {cc : ByteArray} {nL k1 k2 fr mc ms lo pc : Nat} {σ : jH} {lv : List (Nat × Value)} {st : List Value} (C : jA F own cc nL fr mc ms lo) {index : Nat} (hf : Cond.fieldLink own index "java/lang/String" "COMPACT_STRINGS" "Z" ∈ TB) (p1 : Nat) (hp : pc + 3 = p1) (hd : decode cc pc = .ok (.getstatic index, 3)) (kk : jV F nL k1 k2 σ p1 lv (.int 1 :: st)) : jV F nL k1 k2 σ pc lv st := r_gcs (jA_set C σ.1) hf p1 hp hd kk
theorem v_if_eq {F : jFm} {own : String} {cc : ByteArray} {nL k1 k2 fr mc ms lo pc : Nat} {σ : jH} {lv : List (Nat × Value)} {st : List Value} (C : jA F own cc nL fr mc ms lo) {x : Int32} {off : Int} (tgt : Nat) (p1 : Nat) (hp : pc + 3 = p1) (hd : decode cc pc = .ok (.ifCond .eq off, 3)) (ht : (pc : Int) + off = (tgt : Int)) (kk : (x = 0 → jV F nL k1 k2 σ tgt lv st) ∧ (¬ x = 0 → jV F nL k1 k2 σ p1 lv st)) : jV F nL k1 k2 σ pc lv (.int x :: st) := r_if_eq (jA_set C σ.1) tgt p1 hp hd ht kk
def sT : Nat → Nat × Nat × Nat := fun i => if i = 0 then (3, 1, 4) else (2, 2, 16)
theorem c_J5_init {l : Launch} {G : jG} {σ : jH} {a : Nat} (h : σ.1 a = (3, 1, 4)) : jM l G yJ5_init_d00df cJ5_init_d00df 2 none 1 1 16 12 [.ref a, .int 16] σ (fun r σ' => r = none ∧ ∃ f V, f 0 = a ∧ Blk G σ σ' 2 f sT V ∧ V 0 0 = .ref (f 1) ∧ V 0 1 = .int 0 ∧ (∀ k, 2 ≤ k → V 0 k = σ.2 a k) ∧ ∀ k, V 1 k = .int 0) jNo := by
  refine r_body3 (by decide +kernel) rfl (Nat.le_of_ble_eq_true rfl) fun F C hl hG hN ho => ?_
  show jV F _ 0 0 σ 0 [(0, .ref a), (1, .int 16)] []
  have hB := Blk.one (G := G) h (Or.inr (Or.inr (Or.inl rfl)))
  refine v_aload_n C.1 0 1 rfl dJ5_init_d00df_0 rfl ?_
  refine v_obj C.1 sb_oi oi_i oi_c ⟨(Nat.le_of_ble_eq_true rfl), (Nat.le_of_ble_eq_true rfl)⟩ 4 rfl dJ5_init_d00df_1 ?_
  refine v_gcs C.1 sb_cs 7 rfl dJ5_init_d00df_4 ?_
  refine v_if_eq C.1 25 10 rfl dJ5_init_d00df_7 rfl ⟨fun c => absurd c (by decide), fun _ => ?_⟩
  refine v_aload_n C.1 0 11 rfl dJ5_init_d00df_10 rfl ?_
  refine v_iload_n C.1 1 12 rfl dJ5_init_d00df_11 rfl ?_
  refine v_newa C.1 (t := 2) (N := 16) (by decide) rfl ar_2 (by decide) rfl (by decide) ⟨(Nat.le_of_ble_eq_true rfl), (Nat.le_of_ble_eq_true rfl)⟩ 1 16 rfl rfl 14 rfl dJ5_init_d00df_12 fun b1 hn1 => ?_
  rw [hG] at hn1
  have hB := hB.add (d := fun _ => defaultValue (j_aty 2)) hn1 (e := (2, 2, 16)) (Or.inr (Or.inl rfl))
  generalize jMade _ b1 (2, 2, 16) (fun _ => defaultValue (j_aty 2)) = σ0 at hB ⊢
  refine v_put C.1 0 sb_wv rfl rfl ((hB.2.2.1 0 (Nat.le_of_ble_eq_true rfl)).1) 17 rfl dJ5_init_d00df_14 ?_
  have hB : Blk G σ (pV _ a 0 (.ref b1)) _ _ _ _ := hB.put (i := 0) (Nat.le_of_ble_eq_true rfl) 0 (.ref b1)
  generalize pV _ a 0 (.ref b1) = σ1 at hB ⊢
  refine v_aload_n C.1 0 18 rfl dJ5_init_d00df_17 rfl ?_
  refine v_iconst C.1 0 rfl 19 rfl dJ5_init_d00df_18 ?_
  refine v_put C.1 1 sb_wc rfl rfl ((hB.2.2.1 0 (Nat.le_of_ble_eq_true rfl)).1) 22 rfl dJ5_init_d00df_19 ?_
  have hB : Blk G σ (pV _ a 1 (.int 0)) _ _ _ _ := hB.put (i := 0) (Nat.le_of_ble_eq_true rfl) 1 (.int 0)
  generalize pV _ a 1 (.int 0) = σ2 at hB ⊢
  refine v_goto C.1 38 dJ5_init_d00df_22 rfl ?_
  refine v_vret C (Nat.le_of_ble_eq_true rfl) (Nat.le_of_ble_eq_true rfl) dJ5_init_d00df_38 ?_
  rw [ho]
  refine ⟨rfl, _, _, rfl, hB.to (fun _ _ => rfl) (fun i hi => ?_) (fun _ _ _ => rfl), rfl, rfl, fun k hk => ?_, fun _ => rfl⟩
  · have hc : i = 0 ∨ i = 1 := by omega
    rcases hc with z | z <;> subst z <;> rfl
  · show (if (0 : Nat) = 0 ∧ k = 1 then _ else if (0 : Nat) = 0 ∧ k = 0 then _ else _) = _
    rw [if_neg (by omega), if_neg (by omega)]
    rfl
/-- the new text: no letters -/
def jTxt (σ : jH) (a : Nat) : jH := (fun b => if b = a then (6, 0, 0) else σ.1 b, fun b k => if b = a then .int 0 else σ.2 b k)
theorem jR_text {G : jG} {H : Heap} {σ σ2 : jH} {a : Nat} {f : Nat → Nat} {V : Nat → Nat → Value} (hR : jR G H σ2) (hw : jWT σ) (h3 : σ.1 a = (3, 1, 4)) (hno : ∀ b, (σ.1 b).1 ≠ 6) (hf : f 0 = a) (hB : Blk G σ σ2 2 f sT V) (v0 : V 0 0 = .ref (f 1)) (v1 : V 0 1 = .int 0) (v2 : V 0 2 = .int 0) (v3 : V 0 3 = .int 0) (vq : ∀ k, V 1 k = .int 0) : jR G H (jTxt σ a) := by
  obtain ⟨b1, b2, b3, b4, b5⟩ := hB
  obtain ⟨s0, t0⟩ := b3 0 (by decide)
  obtain ⟨s1, t1⟩ := b3 1 (by decide)
  obtain ⟨q1, q2⟩ := b2 1 (by decide) (by decide)
  rw [hf] at s0 t0
  have hqa : f 1 ≠ a := by
    intro z
    have := b1 1 0 (by decide) (by decide) (by rw [z, hf])
    omega
  have ea : (jTxt σ a).1 a = (6, 0, 0) := if_pos rfl
  have en : ∀ b, b ≠ a → (jTxt σ a).1 b = σ.1 b := fun b hb => if_neg hb
  have ka : (jTxt σ a).2 a = fun _ => .int 0 := funext fun _ => if_pos rfl
  have kn : ∀ b, b ≠ a → (jTxt σ a).2 b = σ.2 b := fun b hb => funext fun _ => if_neg hb
  have old : ∀ b, b ≠ a → b ≠ f 1 → σ2.1 b = σ.1 b ∧ σ2.2 b = σ.2 b := by
    intro b hb hb2
    obtain ⟨c1, c2⟩ := b4 b (fun i hi => by
      have : i = 0 ∨ i = 1 := by omega
      rcases this with z | z <;> subst z
      · rw [hf]; exact hb
      · exact hb2)
    exact ⟨c1, funext c2⟩
  have hs : ∀ r, (σ.1 r).1 = 1 ∨ (σ.1 r).1 = 2 ∨ (σ.1 r).1 = 6 → (jTxt σ a).1 r = σ.1 r := by
    intro r hr
    refine en r (fun z => ?_)
    rw [z, h3] at hr
    rcases hr with g | g | g <;> cases g
  have kT : ∀ i j, (j_fT i j).1 = 0 ∨ (j_fT i j).1 = 1 ∨ (j_fT i j).1 = 2 ∨ (j_fT i j).1 = 3 ∨ (j_fT i j).1 = 5 ∨ (j_fT i j).1 = 6 ∨ (j_fT i j).1 = 9 ∨ (j_fT i j).1 = 10 := by
    intro i j
    rcases j_fT_k i j with h | h | h | h | h <;> simp [h]
  have kE : ∀ i, (j_eT i).1 = 0 ∨ (j_eT i).1 = 1 ∨ (j_eT i).1 = 2 ∨ (j_eT i).1 = 3 ∨ (j_eT i).1 = 5 ∨ (j_eT i).1 = 6 ∨ (j_eT i).1 = 9 ∨ (j_eT i).1 = 10 := by
    intro i
    rcases j_eT_k i with h | h | h | h | h <;> simp [h]
  refine ⟨⟨hR.1.1, fun b => ?_⟩, fun b j => ?_⟩
  · by_cases hb : b = a
    · subst hb
      rw [ea, ka]
      obtain ⟨p0, p1, p2, p6⟩ := hR.1.2 b
      rw [s0] at p0 p1
      refine ⟨fun _ => p0 (by decide), fun g => (by rcases g with g | g <;> cases g), fun g => (by rcases g with g | g <;> cases g), fun _ => ?_⟩
      obtain ⟨r, r1, r2, r3⟩ := p1 (Or.inr rfl)
      have hr1 : r = (RJ4, TJ4, 4) := Option.some.inj (r1.symm.trans (show vwCl[1]? = some (RJ4, TJ4, 4) from rfl))
      subst hr1
      obtain ⟨-, -, pq, -⟩ := hR.1.2 (f 1)
      rw [s1] at pq
      obtain ⟨-, pq2⟩ := pq (Or.inl rfl)
      refine ⟨f 1, 16, 0, σ2.2 (f 1), σ2.2 b, q2, by rw [en _ hqa]; exact q1, Nat.zero_le _, Or.inl rfl, rfl, r3, (t0 0).trans v0, (t0 1).trans v1, ⟨0, (t0 2).trans v2⟩, (t0 3).trans v3, pq2, fun j _ => ⟨0, (t1 j).trans (vq j), rfl⟩, fun j hj => absurd hj (Nat.not_lt_zero _), fun b2 hb2 => ?_⟩
      by_cases hz : b2 = b
      · exact hz
      · rw [en b2 hz] at hb2; exact absurd hb2 (hno b2)
    · rw [en b hb, kn b hb]
      by_cases hq : b = f 1
      · subst hq
        refine ⟨fun _ => q2, fun g => ?_, fun g => ?_, fun g => absurd g (hno _)⟩
        · rcases g with g | g
          · exact absurd g q1.1
          · exact absurd g q1.2.2.1
        · rcases g with g | g
          · exact absurd g q1.2.1
          · exact absurd g q1.2.2.2.1
      · obtain ⟨c1, c2⟩ := old b hb hq
        obtain ⟨p0, p1, p2, -⟩ := hR.1.2 b
        rw [c1] at p0 p1 p2
        rw [c2] at p1 p2
        exact ⟨p0, p1, p2, fun g => absurd g (hno _)⟩
  · by_cases hb : b = a
    · subst hb
      rw [ea]
      exact ⟨fun g => (by cases g), fun g => (by cases g)⟩
    · rw [en b hb, kn b hb]
      obtain ⟨p1, p2⟩ := hw b j
      exact ⟨fun g hj => j_okM hs (kT _ _) (p1 g hj), fun g hj => j_okM hs (kE _) (p2 g hj)⟩
theorem v_text {F : jFm} {nL k1 k2 pc : Nat} {lv : List (Nat × Value)} {st : List Value} {σ σ2 : jH} {a : Nat} {f : Nat → Nat} {V : Nat → Nat → Value} (hw : jWT σ) (h3 : σ.1 a = (3, 1, 4)) (hno : ∀ b, (σ.1 b).1 ≠ 6) (hf : f 0 = a) (hB : Blk (jGof F) σ σ2 2 f sT V) (v0 : V 0 0 = .ref (f 1)) (v1 : V 0 1 = .int 0) (v2 : V 0 2 = .int 0) (v3 : V 0 3 = .int 0) (vq : ∀ k, V 1 k = .int 0) (kk : jV F nL k1 k2 (jTxt σ a) pc lv st) : jV F nL k1 k2 σ2 pc lv st := by
  obtain ⟨p, l, e, R, s, m, args, below, meth, c, G, sh, Qr, Qx, mc, ms, Q⟩ := F
  exact fun H locs ls hR hL hl => kk H locs ls (jR_text hR hw h3 hno hf hB v0 v1 v2 v3 vq) hL hl
theorem v_wt {F : jFm} {nL k1 k2 pc : Nat} {lv : List (Nat × Value)} {st : List Value} {σ : jH} (kk : jWT σ → jV F nL k1 k2 σ pc lv st) : jV F nL k1 k2 σ pc lv st := by
  obtain ⟨p, l, e, R, s, m, args, below, meth, c, G, sh, Qr, Qx, mc, ms, Q⟩ := F
  exact fun H locs ls hR hL hl => kk hR.2 H locs ls hR hL hl
theorem c_J4_init {l : Launch} {G : jG} {σ : jH} {a : Nat} (h : σ.1 a = (3, 1, 4)) (h2 : σ.2 a 2 = .int 0) (h3 : σ.2 a 3 = .int 0) (hno : ∀ b, (σ.1 b).1 ≠ 6) : jM l G yJ4_init_da8c8 cJ4_init_da8c8 1 none 2 1 16 40 [.ref a] σ (fun r σ' => r = none ∧ σ' = jTxt σ a) jNo := by
  refine r_body3 (by decide +kernel) rfl (Nat.le_of_ble_eq_true rfl) fun F C hl hG hN ho => ?_
  show jV F _ 0 0 σ 0 [(0, .ref a)] []
  refine v_wt fun hw => ?_
  refine v_aload_n C.1 0 1 rfl dJ4_init_da8c8_0 rfl ?_
  refine v_bipush C.1 16 rfl 3 rfl dJ4_init_da8c8_1 ?_
  refine v_callI C.1 (st := []) (c_J5_init h) yi_J5 mi_J4 rfl ⟨(Nat.le_of_ble_eq_true rfl), (Nat.le_of_ble_eq_true rfl)⟩ ⟨(Nat.le_of_ble_eq_true rfl), (Nat.le_of_ble_eq_true rfl)⟩ (Nat.le_of_ble_eq_true rfl) rfl 1 16 rfl rfl 6 rfl dJ4_init_da8c8_3 (fun r σi hr => ?_)
  obtain ⟨rfl, f, V, f0, hB, w0, w1, w2, w3⟩ := hr
  refine v_text hw h hno f0 hB w0 w1 ((w2 2 (by decide)).trans h2) ((w2 3 (by decide)).trans h3) w3 ?_
  refine v_vret C (Nat.le_of_ble_eq_true rfl) (Nat.le_of_ble_eq_true rfl) dJ4_init_da8c8_6 ?_
  rw [ho]
  exact ⟨rfl, rfl⟩
theorem Blk.txt {G : jG} {σ : jH} {a : Nat} {e : Nat × Nat × Nat} {d : Nat → Value} : Blk G (jMade σ a e d) (jTxt (jMade σ a e d) a) 1 (fun _ => a) (fun _ => (6, 0, 0)) (fun _ _ => .int 0) :=
  ⟨fun i j hi hj _ => by omega, fun i h0 h1 => by omega, fun i _ => ⟨if_pos rfl, fun _ => if_pos rfl⟩, fun b hb => ⟨if_neg (hb 0 (by decide)), fun _ => if_neg (hb 0 (by decide))⟩, fun _ _ => Or.inr (Or.inr (Or.inr (Or.inr rfl)))⟩
