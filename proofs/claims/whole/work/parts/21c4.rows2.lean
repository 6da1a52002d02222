/-! ===== rows of bytes; calls that change the shapes ===== -/
section JACPB
variable {p : Program} {l : Launch} {e : Env} {R : Room} {s : State} {m : MethodId} {args : Array Value} {below : List Frame} {meth : Method} {c : Code} {Q : State → Prop} {G : jG} {own : String} {cc : ByteArray} {nL k1 k2 : Nat} {sh : jSh} {κ : jKt} {pc : Nat} {lv : List (Nat × Value)} {st : List Value}
theorem j_acpB (C : jC p l s m args meth c G own cc nL) {index a0 a1 n0 n1 n : Nat} {nn : Int32} (hlink : Cond.methodLink own index arraycopyName ∈ TB) (hnat : Cond.native arraycopyName ∈ TB) (hstat : Cond.static arraycopyName ∈ TB) (hini : Cond.initialized "java/lang/System" ∈ TB)
    (h0 : sh a0 = (2, 2, n0)) (h1 : sh a1 = (2, 2, n1)) (h3 : ¬ nn < 0) (hn : nn.toNatClampNeg = n) (hn0 : n ≤ n0) (hn1 : n ≤ n1) (hfit : ∀ i, i < n → ∃ x, κ a0 i = .int x ∧ fits .byte (.int x) = true) (hR : 1 ≤ R.frames ∧ (st.map fun v => v.category).sum + (nativeFrameWords "java/lang/System" "arraycopy" 5 + 11) ≤ R.locals) (hdg : decode cc pc = .ok (.invokestatic index, 3))
    (kk : jd p l e R s m args below meth c G nL Q k1 k2 (sh, kCp κ a0 a1 n) (pc + 3) lv st) : jd p l e R s m args below meth c G nL Q k1 k2 (sh, κ) pc lv (.int nn :: .int 0 :: .ref a1 :: .int 0 :: .ref a0 :: st) := by
  intro H0 locs0 ls0 hR0 hL0 hl0 T0 hT0 X0
  have hts := C.1.2.2.2.2
  obtain ⟨h8, hc0⟩ := j_at hR0 (Or.inl h0)
  obtain ⟨-, hc1⟩ := j_at hR0 (Or.inl h1)
  obtain ⟨-, k0, hk0, cm0, hkk0⟩ := (C.2.1.2 2 _ (jtys_at G h8)).1 n0 (κ a0)
  obtain ⟨-, k9, hk9, cm9, hkk9⟩ := (C.2.1.2 2 _ (jtys_at G h8)).1 n1 (κ a1)
  have hz0 : (0 : Int32).toNatClampNeg = 0 := rfl
  have hnI : nn.toInt = (n : Int) := by
    have hge : (0 : Int) ≤ nn.toInt := by
      have := Int32.not_lt.mp h3
      simpa using Int32.le_iff_toInt_le.mp this
    have hq : nn.toInt.toNat = n := hn
    omega
  have hval : ∀ i, i < n → (arrV (G.2.1 2) n0 (κ a0)).slots.getD (0 + i) .null = κ a0 i := fun i hi => by
    rw [Nat.zero_add, Array.getD_eq_getD_getElem?, arrV_read _ _ (by omega : i < n0)]
    rfl
  obtain ⟨vm9, X9, step⟩ := X0.arraycopy C.1.1 C.1.2.2.2.1 (hts _ hlink) (hts _ hnat) (hts _ hstat) (hts _ hini) (src := a0) (dst := a1) (cs := arrV (G.2.1 2) n0 (κ a0)) (cd := arrV (G.2.1 2) n1 (κ a1)) (srcPos := 0) (destPos := 0) (n := nn) (by rw [hT0]; exact hc0) (by rw [hT0]; exact hc1)
    (fun _ h => by cases h) (fun _ h => by cases h) (fun h => by cases h) (fun h => by cases h) hk0 hk9 hkk0 hkk9 (by rfl) (by decide) (by decide) h3
    (by rw [hnI, arrV_size]; show ¬ (0 : Int) + n > n0; omega) (by rw [hnI, arrV_size]; show ¬ (0 : Int) + n > n1; omega)
    (fun vm1 _ i hi => by
      rw [hn] at hi
      rw [hz0, hval i hi]
      obtain ⟨x, e1, e2⟩ := hfit i hi
      rw [e1]
      exact ⟨e2, trivial⟩)
    (g := F0 m pc ls0 (.int nn :: .int 0 :: .ref a1 :: .int 0 :: .ref a0 :: st)) rfl (by rw [C.1.2.2.1]; exact hl0.1) (rest := st) rfl (by rw [C.1.2.1]; exact hdg) hR.1 (by show 2 * 0 + _ + _ ≤ _; omega)
  have ecp : copied (arrV (G.2.1 2) n0 (κ a0)) (arrV (G.2.1 2) n1 (κ a1)) 0 0 nn = arrV (G.2.1 2) n1 (kCp κ a0 a1 n a1) := by
    have h9 := va_copied (fun z : Value => z) (G.2.1 2) (G.2.1 2) (n0 := n0) (n1 := n1) (sp := 0) (dp := 0) (n := n) (κ a0) (κ a1) (by omega)
    show (arrV (G.2.1 2) n1 (κ a1)).storeRun (0 : Int32).toNatClampNeg ((arrV (G.2.1 2) n0 (κ a0)).stretch (0 : Int32).toNatClampNeg nn.toNatClampNeg) = _
    rw [hn, hz0]
    refine h9.trans ?_
    congr 1
    funext k
    simp only [va_cpy, kCp, true_and]
    by_cases hk : k < n
    · rw [if_pos ⟨by omega, by omega⟩, if_pos hk]
      congr 1
      omega
    · rw [if_neg (by omega), if_neg hk]
  rw [ecp] at X9 step
  have hlt : a1 < H0.size := (Array.getElem?_eq_some_iff.mp hc1).1
  have hheap : ((T0.setVm vm9).setCell a1 (arrV (G.2.1 2) n1 (kCp κ a0 a1 n a1))).heap = H0.setIfInBounds a1 (arrV (G.2.1 2) n1 (kCp κ a0 a1 n a1)) := by rw [← hT0]; rfl
  have oq : ∀ q : Nat, q ≠ a1 → (H0.setIfInBounds a1 (arrV (G.2.1 2) n1 (kCp κ a0 a1 n a1)))[q]? = H0[q]? := fun q hq => by simp [Array.getElem?_setIfInBounds, Ne.symm hq]
  have hother : ∀ b, b ≠ a1 → kCp κ a0 a1 n b = κ b := fun b hb => by funext k; simp [kCp, hb]
  have hRn : jR G (H0.setIfInBounds a1 (arrV (G.2.1 2) n1 (kCp κ a0 a1 n a1))) (sh, kCp κ a0 a1 n) := by
    obtain ⟨⟨⟨q1, q2⟩, q3⟩, q4⟩ := hR0
    have hb1 : jbase G ≤ a1 := (q3 a1).1 (by show (sh a1).1 ≠ 0; rw [h1]; simp)
    refine ⟨⟨⟨fun q hq => ?_, by simpa using q2⟩, fun b => ⟨(q3 b).1, fun g => ?_, fun g => ?_, fun g => ?_⟩⟩, fun b j => ⟨fun g1 g2 => ?_, fun g1 g2 => ?_⟩⟩
    · rw [oq q (by omega)]; exact q1 q hq
    · have hb : b ≠ a1 := fun e => by subst e; rw [show (sh, kCp κ a0 b n).1 b = (2, 2, n1) from h1] at g; simp at g
      obtain ⟨r, r1, r2, r3⟩ := (q3 b).2.1 g
      refine ⟨r, r1, r2, ?_⟩
      rw [show (sh, kCp κ a0 a1 n).2 b = κ b from hother b hb]
      exact r3.kept (oq b hb)
    · by_cases hb : b = a1
      · subst hb
        refine ⟨((q3 b).2.2.1 g).1, ?_⟩
        rw [show (sh, kCp κ a0 b n).1 b = (2, 2, n1) from h1]
        simp [Array.getElem?_setIfInBounds, hlt]
      · rw [show (sh, kCp κ a0 a1 n).2 b = κ b from hother b hb, oq b hb]
        exact (q3 b).2.2.1 g
    · have hb : b ≠ a1 := fun e => by subst e; rw [show (sh, kCp κ a0 b n).1 b = (2, 2, n1) from h1] at g; simp at g
      rw [show (sh, kCp κ a0 a1 n).2 b = κ b from hother b hb]
      obtain ⟨q, L, n9, bs, gg, g1, g2, g3, g4, g5, g6, g7, g8, g9, g10, g11, g12, g13⟩ := (q3 b).2.2.2 g
      have hq : q ≠ a1 := fun e => by rw [e, show (sh, κ).1 a1 = (2, 2, n1) from h1] at g2; simp at g2
      exact ⟨q, L, n9, bs, gg, g1, g2, g3, g4, g5, g6.kept (oq b hb), g7, g8, g9, g10, by rw [oq q hq]; exact g11, g12, g13⟩
    · have hb : b ≠ a1 := fun e => by subst e; rw [show (sh, kCp κ a0 b n).1 b = (2, 2, n1) from h1] at g1; simp at g1
      rw [show (sh, kCp κ a0 a1 n).2 b j = κ b j from congrFun (hother b hb) j]
      exact (q4 b j).1 g1 g2
    · by_cases hb : b = a1
      · subst hb
        rw [show (sh, kCp κ a0 b n).1 b = (2, 2, n1) from h1] at g2 ⊢
        by_cases hj : j < n
        · rw [show (sh, kCp κ a0 b n).2 b j = κ a0 j from if_pos ⟨rfl, hj⟩]
          obtain ⟨x, e1, -⟩ := hfit j hj
          exact ⟨x, e1⟩
        · rw [show (sh, kCp κ a0 b n).2 b j = κ b j from if_neg (fun g => hj g.2)]
          have h9 := (q4 b j).2 (by show (sh b).1 = 2; rw [h1]) (by show j < (sh b).2.2; rw [h1]; exact g2)
          rw [show (sh, κ).1 b = (2, 2, n1) from h1] at h9
          exact h9
      · rw [show (sh, kCp κ a0 a1 n).2 b j = κ b j from congrFun (hother b hb) j]
        exact (q4 b j).2 g1 g2
  obtain ⟨t9, a9, b9⟩ := kk _ _ ls0 hRn (fun z hz => by
    rcases List.mem_append.mp hz with h | h
    · exact hL0 z h
    · obtain ⟨z9, -, hz9⟩ := List.mem_map.mp h
      rw [← hz9]
      exact (hR0.1.2 a1).1 (by show (sh a1).1 ≠ 0; rw [h1]; simp)) hl0 _ hheap X9
  exact ⟨t9, step t9 a9, b9⟩
end JACPB
/-- the frame, with other shapes -/
def jSet (F : jFm) (sh' : jSh) : jFm := match F with
  | (p, l, e, R, s, m, args, below, meth, c, G, _, Qr, Qx, mc, ms, Q) => (p, l, e, R, s, m, args, below, meth, c, G, sh', Qr, Qx, mc, ms, Q)
theorem jSet_id (F : jFm) : jSet F (jSof F) = F := by
  obtain ⟨p, l, e, R, s, m, args, below, meth, c, G, sh, Qr, Qx, mc, ms, Q⟩ := F; rfl
theorem jSet_S (F : jFm) (sh' : jSh) : jSof (jSet F sh') = sh' ∧ jGof (jSet F sh') = jGof F ∧ jLof (jSet F sh') = jLof F := by
  obtain ⟨p, l, e, R, s, m, args, below, meth, c, G, sh, Qr, Qx, mc, ms, Q⟩ := F; exact ⟨rfl, rfl, rfl⟩
theorem jA_set {F : jFm} {own : String} {cc : ByteArray} {nL fr mc ms lo : Nat} (C : jA F own cc nL fr mc ms lo) (sh' : jSh) : jA (jSet F sh') own cc nL fr mc ms lo := by
  obtain ⟨p, l, e, R, s, m, args, below, meth, c, G, sh, Qr, Qx, mc, ms, Q⟩ := F; exact C
theorem jB_set {F : jFm} {own : String} {cc : ByteArray} {nL fr mc ms lo : Nat} {ret : Option FieldType} (C : jB F own cc nL ret fr mc ms lo) (sh' : jSh) : jB (jSet F sh') own cc nL ret fr mc ms lo := by
  obtain ⟨p, l, e, R, s, m, args, below, meth, c, G, sh, Qr, Qx, mc, ms, Q⟩ := F; exact C
/-- the end of a method, as its contract says it -/
def jEndQ (F : jFm) (r : Option Value) (σ' : jH) : Prop := F.2.2.2.2.2.2.2.2.2.2.2.2.1 r σ'
theorem jOut_set (F : jFm) (sh' : jSh) (r : Option Value) (κ : jKt) : jOut (jSet F sh') r κ = jEndQ F r (sh', κ) := by
  obtain ⟨p, l, e, R, s, m, args, below, meth, c, G, sh, Qr, Qx, mc, ms, Q⟩ := F; rfl
theorem jEndQ_set (F : jFm) (sh' : jSh) : jEndQ (jSet F sh') = jEndQ F := by
  obtain ⟨p, l, e, R, s, m, args, below, meth, c, G, sh, Qr, Qx, mc, ms, Q⟩ := F; rfl
section JW3
variable {F : jFm} {own : String} {cc : ByteArray} {nL k1 k2 fr mc ms lo pc : Nat} {ret : Option FieldType} {κ : jKt} {lv lv' : List (Nat × Value)} {st : List Value}
theorem r_newa (C : jA F own cc nL fr mc ms lo) {t : Nat} (ht : t < 5) {atype : ArrayType} (hty : newarray.typeOf atype = j_aty t) (harr : Cond.arrayClass (j_aty t) ∈ TB) {n : Int32} {N : Nat} (hn : ¬ n < 0) (hN : n.toNatClampNeg = N) (hb : N ≤ 65536) (hf : k1 + 1 ≤ mc ∧ k2 + N ≤ ms) (p1 : Nat) (hp : pc + 2 = p1) (hd : decode cc pc = .ok (.newarray atype, 2))
    (kk : ∀ a, jFree (jGof F) (jSof F, κ) a → jW (jSet F (jMade (jSof F, κ) a (2, t, N) (fun _ => defaultValue (j_aty t))).1) nL (k1 + 1) (k2 + N) (jMade (jSof F, κ) a (2, t, N) (fun _ => defaultValue (j_aty t))).2 p1 lv (.ref a :: st)) : jW F nL k1 k2 κ pc lv (.int n :: st) := by
  obtain ⟨p, l, e, R, s, m, args, below, meth, c, G, sh, Qr, Qx, mc, ms, Q⟩ := F
  obtain ⟨C1, C4⟩ := C
  subst hp C4
  exact j_newa C1 ht hty harr hn hN hb hf hd kk
theorem r_acpB (C : jA F own cc nL fr mc ms lo) {index a0 a1 n0 n1 n : Nat} {nn : Int32} {κ' : jKt} (hac : Cond.methodLink own index arraycopyName ∈ TB ∧ Cond.native arraycopyName ∈ TB ∧ Cond.static arraycopyName ∈ TB ∧ Cond.initialized "java/lang/System" ∈ TB) (h0 : jSof F a0 = (2, 2, n0)) (h1 : jSof F a1 = (2, 2, n1)) (h3 : ¬ nn < 0) (hn : nn.toNatClampNeg = n) (hn0 : n ≤ n0) (hn1 : n ≤ n1) (hfit : ∀ i, i < n → ∃ x, κ a0 i = .int x ∧ fits .byte (.int x) = true) (hR : 1 ≤ fr ∧ (st.map fun v => v.category).sum + (nativeFrameWords "java/lang/System" "arraycopy" 5 + 11) ≤ lo) (hκ : κ' = kCp κ a0 a1 n) (p1 : Nat) (hp : pc + 3 = p1) (hd : decode cc pc = .ok (.invokestatic index, 3)) (kk : jW F nL k1 k2 κ' p1 lv st) : jW F nL k1 k2 κ pc lv (.int nn :: .int 0 :: .ref a1 :: .int 0 :: .ref a0 :: st) := by
  obtain ⟨p, l, e, R, s, m, args, below, meth, c, G, sh, Qr, Qx, mc, ms, Q⟩ := F
  obtain ⟨C1, C4⟩ := C
  subst hκ hp C4
  exact j_acpB C1 hac.1 hac.2.1 hac.2.2.1 hac.2.2.2 h0 h1 h3 hn hn0 hn1 hfit hR hd kk
theorem r_i2b (C : jA F own cc nL fr mc ms lo) {x : Int32} (p1 : Nat) (hp : pc + 1 = p1) (hd : decode cc pc = .ok (.i2b, 1)) (kk : jW F nL k1 k2 κ p1 lv (.int x.toInt8.toInt32 :: st)) : jW F nL k1 k2 κ pc lv (.int x :: st) := by
  obtain ⟨p, l, e, R, s, m, args, below, meth, c, G, sh, Qr, Qx, mc, ms, Q⟩ := F; subst hp; exact fun H locs ls hR hL hl => lv_i2b C.1.1.1 C.1.1.2.1 hd rfl (kk H locs ls hR hL hl)
theorem r_bald (C : jA F own cc nL fr mc ms lo) {a n : Nat} {i : Int32} (ha : jSof F a = (2, 2, n)) (hin : jin i n) (p1 : Nat) (hp : pc + 1 = p1) (hd : decode cc pc = .ok (.baload, 1)) (kk : jW F nL k1 k2 κ p1 lv (.int (kI κ a (ix i)) :: st)) : jW F nL k1 k2 κ pc lv (.int i :: .ref a :: st) := by
  obtain ⟨p, l, e, R, s, m, args, below, meth, c, G, sh, Qr, Qx, mc, ms, Q⟩ := F
  subst hp
  intro H locs ls hR hL hl
  have hlt : i.toNatClampNeg < n := Nat.not_le.mp fun q => hin (Or.inr q)
  obtain ⟨h8, hc⟩ := j_at hR (Or.inl ha)
  have hv := (hR.2 a i.toNatClampNeg).2 (by show (sh a).1 = 2; rw [show sh a = (2, 2, n) from ha]) (by show _ < (sh a).2.2; rw [show sh a = (2, 2, n) from ha]; exact hlt)
  rw [show (sh, κ).1 a = (2, 2, n) from ha] at hv
  exact W.bald (v := .int (kI κ a (ix i))) C.1.1.1 C.1.1.2.1 hc ((C.1.2.1.2 2 _ (jtys_at G (t := 2) (by decide))).1 n (κ a)) (fun q => by cases q) (by rw [arrV_size]; exact hin) (by rw [arrV_read _ _ hlt]; exact congrArg some (j_int hv rfl)) rfl rfl hd (kk H locs ls hR hL hl)
theorem r_bast (C : jA F own cc nL fr mc ms lo) {a n : Nat} {i x y : Int32} {κ' : jKt} (ha : jSof F a = (2, 2, n)) (hin : jin i n) (hy : narrow .byte (.int x) = .int y) (hκ : κ' = kU κ a (ix i) (.int y)) (p1 : Nat) (hp : pc + 1 = p1) (hd : decode cc pc = .ok (.bastore, 1)) (kk : jW F nL k1 k2 κ' p1 lv st) : jW F nL k1 k2 κ pc lv (.int x :: .int i :: .ref a :: st) := by
  obtain ⟨p, l, e, R, s, m, args, below, meth, c, G, sh, Qr, Qx, mc, ms, Q⟩ := F
  subst hκ hp
  intro H locs ls hR hL hl
  obtain ⟨h8, hc⟩ := j_at hR (Or.inl ha)
  refine W.bast C.1.1.1 C.1.1.2.1 hc ((C.1.2.1.2 2 _ (jtys_at G (t := 2) (by decide))).1 n (κ a)) (fun q => by cases q) (by rw [arrV_size]; exact hin) rfl rfl hd fun H1 e1 z oq => ?_
  rw [hy] at e1
  refine kk H1 _ ls (jR_apush hR (Or.inl ha) (fun _ => ⟨y, rfl⟩) e1 z oq) (fun q hq => ?_) hl
  rcases List.mem_append.mp hq with h | h
  · exact hL q h
  · rw [List.mem_singleton.mp h]
    exact (hR.1.2 a).1 (by show (sh a).1 ≠ 0; rw [show sh a = (2, 2, n) from ha]; simp)
/-- the field value of a text builder is read -/
theorem r_getQ (C : jA F own cc nL fr mc ms lo) {index a q : Nat} (hf : jFld own index 1 4 0) (ha : jSof F a = (1, 1, 4)) (hq : κ a 0 = .ref q) (p1 : Nat) (hp : pc + 3 = p1) (hd : decode cc pc = .ok (.getfield index, 3)) (kk : jW F nL k1 k2 κ p1 lv (.ref q :: st)) : jW F nL k1 k2 κ pc lv (.ref a :: st) := by
  obtain ⟨p, l, e, R, s, m, args, below, meth, c, G, sh, Qr, Qx, mc, ms, Q⟩ := F
  subst hp
  obtain ⟨C1, T, hc, hin, hk, h | ⟨host, h⟩⟩ := hf
  · refine j_getV C.1 0 hc hin hk h ⟨Or.inl (by show (sh a).1 = 1; rw [show sh a = (1, 1, 4) from ha]), by show (sh a).2.1 = 1; rw [show sh a = (1, 1, 4) from ha]⟩ hd ?_
    rw [show (sh, κ).2 a 0 = .ref q from hq]; exact kk
  · refine j_getVN C.1 0 hc hin hk h ⟨Or.inl (by show (sh a).1 = 1; rw [show sh a = (1, 1, 4) from ha]), by show (sh a).2.1 = 1; rw [show sh a = (1, 1, 4) from ha]⟩ hd ?_
    rw [show (sh, κ).2 a 0 = .ref q from hq]; exact kk
/-- a method of the superclass is called on a text builder; the shapes may change -/
theorem r_callU (C : jA F own cc nL fr mc ms lo) {n b index nY fr1 mc1 ms1 lo1 : Nat} {y : MethodName} {by0 : ByteArray} {rt : Option FieldType} {As st0 : List Value} {Qr : Option Value → jH → Prop}
    (hM : jM (jLof F) (jGof F) y by0 nY rt fr1 mc1 ms1 lo1 (.ref b :: As) (jSof F, κ) Qr jNo) (hY : jYU RJ4 y by0 nY rt n) (hlink : Cond.methodLink own index y ∈ TB) (hb : jSof F b = (1, 1, 4)) (hn : As.length = n) (hR : fr1 + 1 ≤ fr ∧ 8 + (nY + 11) + lo1 ≤ lo) (hf : k1 + mc1 ≤ mc ∧ k2 + ms1 ≤ ms) (hW : (st.map fun v => v.category).sum ≤ 8) (hst : st0 = As.reverse ++ .ref b :: st) (p1 : Nat) (hp : pc + 3 = p1) (hd : decode cc pc = .ok (.invokevirtual index, 3))
    (kk : ∀ (r : Option Value) (σ' : jH), Qr r σ' → jW (jSet F σ'.1) nL (k1 + mc1) (k2 + ms1) σ'.2 p1 lv (r.toList ++ st)) : jW F nL k1 k2 κ pc lv st0 := by
  obtain ⟨p, l, e, R, s, m, args, below, meth, c, G, sh, Qr0, Qx0, mc, ms, Q⟩ := F
  obtain ⟨C1, C4⟩ := C
  subst C4 hp
  exact j_callU C1 hM hY hlink (show vwCl[1]? = some (RJ4, TJ4, 4) from rfl) hb hn hR hf hW hst hd (fun r σ' h => kk r σ' h) (fun _ _ h => h.elim)
theorem r_callSU (C : jA F RJ4 cc nL fr mc ms lo) {n b index nY fr1 mc1 ms1 lo1 : Nat} {y : MethodName} {by0 : ByteArray} {rt : Option FieldType} {As st0 : List Value} {Qr : Option Value → jH → Prop}
    (hM : jM (jLof F) (jGof F) y by0 nY rt fr1 mc1 ms1 lo1 (.ref b :: As) (jSof F, κ) Qr jNo) (hY : jYW RJ4 y by0 nY rt n) (hlink : Cond.methodLink RJ4 index y ∈ TB) (hb : jSof F b = (1, 1, 4)) (hn : As.length = n) (hR : fr1 + 1 ≤ fr ∧ 8 + (nY + 11) + lo1 ≤ lo) (hf : k1 + mc1 ≤ mc ∧ k2 + ms1 ≤ ms) (hW : (st.map fun v => v.category).sum ≤ 8) (hst : st0 = As.reverse ++ .ref b :: st) (p1 : Nat) (hp : pc + 3 = p1) (hd : decode cc pc = .ok (.invokespecial index, 3))
    (kk : ∀ (r : Option Value) (σ' : jH), Qr r σ' → jW (jSet F σ'.1) nL (k1 + mc1) (k2 + ms1) σ'.2 p1 lv (r.toList ++ st)) : jW F nL k1 k2 κ pc lv st0 := by
  obtain ⟨p, l, e, R, s, m, args, below, meth, c, G, sh, Qr0, Qx0, mc, ms, Q⟩ := F
  obtain ⟨C1, C4⟩ := C
  subst C4 hp
  exact j_callSU C1 hM hY hlink (show vwCl[1]? = some (RJ4, TJ4, 4) from rfl) hb hn hR hf hW hst hd (fun r σ' h => kk r σ' h) (fun _ _ h => h.elim)
theorem r_callSg (C : jA F own cc nL fr mc ms lo) {n index nY fr1 mc1 ms1 lo1 : Nat} {y : MethodName} {by0 : ByteArray} {rt : Option FieldType} {As st0 : List Value} {Qr : Option Value → jH → Prop}
    (hM : jM (jLof F) (jGof F) y by0 nY rt fr1 mc1 ms1 lo1 As (jSof F, κ) Qr jNo) (hY : jYS y by0 nY rt n) (hlink : Cond.methodLink own index y ∈ TB) (hn : As.length = n) (hR : fr1 + 1 ≤ fr ∧ 8 + (nY + 11) + lo1 ≤ lo) (hf : k1 + mc1 ≤ mc ∧ k2 + ms1 ≤ ms) (hW : (st.map fun v => v.category).sum ≤ 8) (hst : st0 = As.reverse ++ st) (p1 : Nat) (hp : pc + 3 = p1) (hd : decode cc pc = .ok (.invokestatic index, 3))
    (kk : ∀ (r : Option Value) (σ' : jH), Qr r σ' → jW (jSet F σ'.1) nL (k1 + mc1) (k2 + ms1) σ'.2 p1 lv (r.toList ++ st)) : jW F nL k1 k2 κ pc lv st0 := by
  obtain ⟨p, l, e, R, s, m, args, below, meth, c, G, sh, Qr0, Qx0, mc, ms, Q⟩ := F
  obtain ⟨C1, C4⟩ := C
  subst C4 hp
  exact j_callS C1 hM hY hlink hn hR hf hW hst hd (fun r σ' h => kk r σ' h) (fun _ _ h => h.elim)
end JW3
