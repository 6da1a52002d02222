/-! ===== String constants, the static rows, text builders: rows ===== -/
abbrev jStr (F : jFm) (i : Nat) : Nat := (jGof F).2.2.2.1 i
abbrev jStv (F : jFm) (i : Nat) : Nat := (jGof F).2.2.2.2 i
def kSn (i : Nat) : Nat := (jbyts.getD i []).length
def kSb (i j : Nat) : Int32 := (jbyts.getD i []).getD j 0
theorem jbyts_at {i : Nat} (h : i < 38) : ∃ q, jbyts[i]? = some q ∧ jbyts.getD i [] = q := by
  have hl : jbyts.length = 38 := by decide +kernel
  refine ⟨jbyts[i]'(by omega), List.getElem?_eq_getElem (by omega), ?_⟩
  rw [List.getD_eq_getElem?_getD, List.getElem?_eq_getElem (by omega)]
  rfl
/-- a cell of the class is there -/
def jCell (F : jFm) (κ : jKt) (b : Nat) (cls : String) : Prop := match F with
  | (_, _, _, _, s, _, _, _, _, _, G, sh, _, _, _, _, _) => ∀ H, jR G H (sh, κ) → ∃ cell : Cell, H[b]? = some cell ∧ cell.vm.isStatics = false ∧ s.vm.findClass cls = some cell.cls
section JSTR
variable {F : jFm} {own : String} {cc : ByteArray} {nL k1 k2 fr mc ms lo pc : Nat} {ret : Option FieldType} {κ : jKt} {lv lv' : List (Nat × Value)} {st : List Value}
theorem jCell_S (C : jA F own cc nL fr mc ms lo) {i : Nat} (hi : i < 38) : jCell F κ (jStr F i) "java/lang/String" := by
  obtain ⟨p, l, e, R, s, m, args, below, meth, c, G, sh, Qr, Qx, mc, ms, Q⟩ := F
  intro H9 hR9
  obtain ⟨q, hq, -⟩ := jbyts_at hi
  obtain ⟨cell, h1, h2, h3, -⟩ := ((C.1.2.2.2.2.2.2.2.1 i q hq).1 0 (Nat.zero_lt_one)).1.kept (fun a ha _ => hR9.1.1.1 a ha)
  exact ⟨cell, h1, h2, h3⟩
theorem jCell_T (C : jA F own cc nL fr mc ms lo) {b : Nat} (hb : jSof F b = (6, 0, 0)) : jCell F κ b "java/lang/StringBuilder" := by
  obtain ⟨p, l, e, R, s, m, args, below, meth, c, G, sh, Qr, Qx, mc, ms, Q⟩ := F
  intro H9 hR9
  have hb6 : (sh, κ).1 b = (6, 0, 0) := hb
  obtain ⟨q, L, n9, bs, gg, g1, g2, g3, g4, g5, g6, -⟩ := (hR9.1.2 b).2.2.2 (by rw [hb6])
  obtain ⟨cell, q1, q2, q3, -⟩ := g6
  exact ⟨cell, q1, by rw [q3]; rfl, by rw [q2]; exact (C.1.2.1.1 1 _ (show vwCl[1]? = some (RJ4, TJ4, 4) from rfl)).2.1⟩
theorem r_ldcS (C : jA F own cc nL fr mc ms lo) (i : Nat) {tx : String} {index : Nat} (hs : jstrs[i]? = some (own, index, tx)) (p1 : Nat) (hp : pc + 2 = p1) (hd : decode cc pc = .ok (.ldc index, 2)) (kk : jW F nL k1 k2 κ p1 lv (.ref (jStr F i) :: st)) : jW F nL k1 k2 κ pc lv st := by
  obtain ⟨p, l, e, R, s, m, args, below, meth, c, G, sh, Qr, Qx, mc, ms, Q⟩ := F
  subst hp
  exact fun H9 locs9 ls9 hR hL hv => va_ldcS C.1.1.1 C.1.1.2.1 C.1.1.2.2.2.1 (C.1.2.2.2.2.2.2.1 i _ hs) hd (kk H9 locs9 ls9 hR hL hv)
theorem r_getSV (C : jA F own cc nL fr mc ms lo) {i index : Nat} (hi : i < 38) (hf : Cond.fieldLink own index "java/lang/String" "value" "[B" ∈ TB) (p1 : Nat) (hp : pc + 3 = p1) (hd : decode cc pc = .ok (.getfield index, 3)) (kk : jW F nL k1 k2 κ p1 lv (.ref (jStv F i) :: st)) : jW F nL k1 k2 κ pc lv (.ref (jStr F i) :: st) := by
  obtain ⟨p, l, e, R, s, m, args, below, meth, c, G, sh, Qr, Qx, mc, ms, Q⟩ := F
  subst hp
  obtain ⟨q, hq, -⟩ := jbyts_at hi
  intro H9 locs9 ls9 hR hL hv
  obtain ⟨cf, kf, fi, f, cell, h1, h2, h3, h4, h5, h6⟩ := ((C.1.2.2.2.2.2.2.2.1 i q hq).1 0 (Nat.zero_lt_one)).2.2.1.kept (fun a ha _ => hR.1.1.1 a ha)
  exact W.getf C.1.1.1 C.1.1.2.1 C.1.1.2.2.2.1 (C.1.1.2.2.2.2 _ hf) h1 h2 h3 h4 (v := .ref (G.2.2.2.2 i)) h5 rfl rfl hd (kk H9 locs9 ls9 hR hL hv)
theorem r_getSC (C : jA F own cc nL fr mc ms lo) {i index : Nat} (hi : i < 38) (hf : Cond.fieldLink own index "java/lang/String" "coder" "B" ∈ TB) (p1 : Nat) (hp : pc + 3 = p1) (hd : decode cc pc = .ok (.getfield index, 3)) (kk : jW F nL k1 k2 κ p1 lv (.int 0 :: st)) : jW F nL k1 k2 κ pc lv (.ref (jStr F i) :: st) := by
  obtain ⟨p, l, e, R, s, m, args, below, meth, c, G, sh, Qr, Qx, mc, ms, Q⟩ := F
  subst hp
  obtain ⟨q, hq, -⟩ := jbyts_at hi
  intro H9 locs9 ls9 hR hL hv
  obtain ⟨cf, kf, fi, f, cell, h1, h2, h3, h4, h5, h6⟩ := ((C.1.2.2.2.2.2.2.2.1 i q hq).1 0 (Nat.zero_lt_one)).2.1.kept (fun a ha _ => hR.1.1.1 a ha)
  exact W.getf C.1.1.1 C.1.1.2.1 C.1.1.2.2.2.1 (C.1.1.2.2.2.2 _ hf) h1 h2 h3 h4 (v := .int 0) h5 rfl rfl hd (kk H9 locs9 ls9 hR hL hv)
theorem r_tlen (C : jA F own cc nL fr mc ms lo) {i : Nat} (hi : i < 38) (p1 : Nat) (hp : pc + 1 = p1) (hd : decode cc pc = .ok (.arraylength, 1)) (kk : jW F nL k1 k2 κ p1 lv (.int (Int32.ofNat (kSn i)) :: st)) : jW F nL k1 k2 κ pc lv (.ref (jStv F i) :: st) := by
  obtain ⟨p, l, e, R, s, m, args, below, meth, c, G, sh, Qr, Qx, mc, ms, Q⟩ := F
  subst hp
  obtain ⟨q, hq, hq2⟩ := jbyts_at hi
  intro H9 locs9 ls9 hR hL hv
  obtain ⟨cell, h1, h2, h3, h4, h5, h6, h7⟩ := ((C.1.2.2.2.2.2.2.2.1 i q hq).1 0 (Nat.zero_lt_one)).2.2.2.kept (fun a ha _ => hR.1.1.1 a ha)
  refine W.alen (n := Int32.ofNat (kSn i)) C.1.1.1 C.1.1.2.1 h1 h2 ?_ rfl rfl hd (kk H9 locs9 ls9 hR hL hv)
  rw [h5]
  unfold kSn
  rw [hq2]
  rfl
theorem r_tbald (C : jA F own cc nL fr mc ms lo) {i : Nat} {j : Int32} (hi : i < 38) (hin : jin j (kSn i)) (p1 : Nat) (hp : pc + 1 = p1) (hd : decode cc pc = .ok (.baload, 1)) (kk : jW F nL k1 k2 κ p1 lv (.int (kSb i (ix j)) :: st)) : jW F nL k1 k2 κ pc lv (.int j :: .ref (jStv F i) :: st) := by
  obtain ⟨p, l, e, R, s, m, args, below, meth, c, G, sh, Qr, Qx, mc, ms, Q⟩ := F
  subst hp
  obtain ⟨q, hq, hq2⟩ := jbyts_at hi
  have hlt : j.toNatClampNeg < q.length := by
    have h9 : j.toNatClampNeg < kSn i := Nat.not_le.mp fun g => hin (Or.inr g)
    unfold kSn at h9
    rw [hq2] at h9
    exact h9
  intro H9 locs9 ls9 hR hL hv
  obtain ⟨cell, h1, h2, h3, h4, h5, h6, h7⟩ := ((C.1.2.2.2.2.2.2.2.1 i q hq).1 0 (Nat.zero_lt_one)).2.2.2.kept (fun a ha _ => hR.1.1.1 a ha)
  refine W.bald (v := .int (kSb i (ix j))) C.1.1.1 C.1.1.2.1 h1 h2 h3 (fun g => g.elim (fun g => hin (Or.inl g)) (fun g => by have : q.length ≤ cell.slots.size := h4; omega)) ?_ rfl rfl hd (kk H9 locs9 ls9 hR hL hv)
  rw [h6 _ hlt]
  unfold kSb
  rw [hq2]
  rfl
theorem r_gcs (C : jA F own cc nL fr mc ms lo) {index : Nat} (hf : Cond.fieldLink own index "java/lang/String" "COMPACT_STRINGS" "Z" ∈ TB) (p1 : Nat) (hp : pc + 3 = p1) (hd : decode cc pc = .ok (.getstatic index, 3)) (kk : jW F nL k1 k2 κ p1 lv (.int 1 :: st)) : jW F nL k1 k2 κ pc lv st := by
  obtain ⟨p, l, e, R, s, m, args, below, meth, c, G, sh, Qr, Qx, mc, ms, Q⟩ := F
  subst hp
  intro H9 locs9 ls9 hR hL hv
  obtain ⟨cf, kf, fi, f, a, cell, h1, h2, h3, h4, h5, h6, h7, h8⟩ := (C.1.2.2.2.2.2.2.2.2.1).kept (fun a ha _ => hR.1.1.1 a ha)
  exact W.gets C.1.1.1 C.1.1.2.1 C.1.1.2.2.2.1 (C.1.1.2.2.2.2 _ hf) h1 h2 h3 h4 h5 (fun e => by rw [e] at h6; cases h6) h7 rfl hd (kk H9 locs9 ls9 hR hL hv)
/-- a method is called on an object of the machine's own world -/
theorem r_callG (C : jA F own cc nL fr mc ms lo) {n b index nY fr1 mc1 ms1 lo1 : Nat} {y : MethodName} {by0 : ByteArray} {rt : Option FieldType} {As st0 : List Value} {Qr : Option Value → jH → Prop} {Qx : String → jH → Prop}
    (hM : jM (jLof F) (jGof F) y by0 nY rt fr1 mc1 ms1 lo1 (.ref b :: As) (jSof F, κ) Qr Qx) (hY : jYV y by0 nY rt n) (hlink : Cond.methodLink own index y ∈ TB) (hb : jCell F κ b y.cls) (hn : As.length = n) (hR : fr1 + 1 ≤ fr ∧ 8 + (nY + 11) + lo1 ≤ lo) (hf : k1 + mc1 ≤ mc ∧ k2 + ms1 ≤ ms) (hW : (st.map fun v => v.category).sum ≤ 8) (hst : st0 = As.reverse ++ .ref b :: st) (p1 : Nat) (hp : pc + 3 = p1) (hd : decode cc pc = .ok (.invokevirtual index, 3))
    (kk : ∀ (r : Option Value) (σ' : jH), Qr r σ' → ∃ κ', σ' = (jSof F, κ') ∧ jW F nL (k1 + mc1) (k2 + ms1) κ' p1 lv (r.toList ++ st))
    (kx : ∀ (E : String) (σ' : jH), Qx E σ' → ∃ κ', σ' = (jSof F, κ') ∧ jWx F nL (k1 + mc1) (k2 + ms1) E κ' pc lv st) : jW F nL k1 k2 κ pc lv st0 := by
  obtain ⟨p, l, e, R, s, m, args, below, meth, c, G, sh, Qr0, Qx0, mc, ms, Q⟩ := F
  obtain ⟨C1, C4⟩ := C
  subst C4 hp
  obtain ⟨y1, y2, y3, y4, y5, y6⟩ := hY
  have hts := C1.1.2.2.2.2
  refine j_run (a := (Value.ref b :: As).toArray) (Qr := Qr) (Qx := Qx) (mc := mc1) (ms := ms1) (st := st) (fun H9 locs9 ls9 hR1 hl => ?_) (fun r σ' h => ?_) (fun E σ' h => ?_)
  · refine vx_runV C1.1 hM ⟨j_callB C1 y3 y4 y5 y6 hlink hR, hts _ y1, hts _ y2⟩ ⟨jP_blind, ?_, fun U hU hW => ⟨rfl, by rw [hU]; exact hR1, va_K.moved hW.alike C1.2.1, jE.moved hW C1.2.2.2⟩⟩ rfl hn hl.1 hst (lv_room hW) hd hf
    exact hb H9 hR1
  · obtain ⟨κ', rfl, k⟩ := kk r σ' h
    exact k
  · obtain ⟨κ', rfl, k⟩ := kx E σ' h
    exact k
theorem r_cGi (C : jA F own cc nL fr mc ms lo) {n b index nY fr1 mc1 ms1 lo1 : Nat} {y : MethodName} {by0 : ByteArray} {rt : Option FieldType} {As st0 : List Value} {κ' : jKt} {x : Int32}
    (hM : jM (jLof F) (jGof F) y by0 nY rt fr1 mc1 ms1 lo1 (.ref b :: As) (jSof F, κ) (jIs (some (.int x)) (jSof F, κ')) jNo) (hY : jYV y by0 nY rt n) (hlink : Cond.methodLink own index y ∈ TB) (hb : jCell F κ b y.cls) (hn : As.length = n) (hR : fr1 + 1 ≤ fr ∧ 8 + (nY + 11) + lo1 ≤ lo) (hf : k1 + mc1 ≤ mc ∧ k2 + ms1 ≤ ms) (hW : (st.map fun v => v.category).sum ≤ 8) (hst : st0 = As.reverse ++ .ref b :: st) (k1' k2' : Nat) (e1 : k1 + mc1 = k1') (e2 : k2 + ms1 = k2') (p1 : Nat) (hp : pc + 3 = p1) (hd : decode cc pc = .ok (.invokevirtual index, 3)) (kk : jW F nL k1' k2' κ' p1 lv (.int x :: st)) : jW F nL k1 k2 κ pc lv st0 := by
  subst e1 e2
  exact r_callG C hM hY hlink hb hn hR hf hW hst p1 hp hd (fun r σ' h => ⟨κ', h.2, by rw [h.1]; exact kk⟩) (fun _ _ h => h.elim)
theorem r_cGv (C : jA F own cc nL fr mc ms lo) {n b index nY fr1 mc1 ms1 lo1 : Nat} {y : MethodName} {by0 : ByteArray} {rt : Option FieldType} {As st0 : List Value} {κ' : jKt}
    (hM : jM (jLof F) (jGof F) y by0 nY rt fr1 mc1 ms1 lo1 (.ref b :: As) (jSof F, κ) (jIs none (jSof F, κ')) jNo) (hY : jYV y by0 nY rt n) (hlink : Cond.methodLink own index y ∈ TB) (hb : jCell F κ b y.cls) (hn : As.length = n) (hR : fr1 + 1 ≤ fr ∧ 8 + (nY + 11) + lo1 ≤ lo) (hf : k1 + mc1 ≤ mc ∧ k2 + ms1 ≤ ms) (hW : (st.map fun v => v.category).sum ≤ 8) (hst : st0 = As.reverse ++ .ref b :: st) (k1' k2' : Nat) (e1 : k1 + mc1 = k1') (e2 : k2 + ms1 = k2') (p1 : Nat) (hp : pc + 3 = p1) (hd : decode cc pc = .ok (.invokevirtual index, 3)) (kk : jW F nL k1' k2' κ' p1 lv st) : jW F nL k1 k2 κ pc lv st0 := by
  subst e1 e2
  exact r_callG C hM hY hlink hb hn hR hf hW hst p1 hp hd (fun r σ' h => ⟨κ', h.2, by rw [h.1]; exact kk⟩) (fun _ _ h => h.elim)
theorem r_cGr (C : jA F own cc nL fr mc ms lo) {n b index nY fr1 mc1 ms1 lo1 : Nat} {y : MethodName} {by0 : ByteArray} {rt : Option FieldType} {As st0 : List Value} {κ' : jKt} {a : Nat} {Tr : Nat × Nat × Nat}
    (hM : jM (jLof F) (jGof F) y by0 nY rt fr1 mc1 ms1 lo1 (.ref b :: As) (jSof F, κ) (jIsT a Tr (jSof F) κ') jNo) (hY : jYV y by0 nY rt n) (hlink : Cond.methodLink own index y ∈ TB) (hb : jCell F κ b y.cls) (hn : As.length = n) (hR : fr1 + 1 ≤ fr ∧ 8 + (nY + 11) + lo1 ≤ lo) (hf : k1 + mc1 ≤ mc ∧ k2 + ms1 ≤ ms) (hW : (st.map fun v => v.category).sum ≤ 8) (hst : st0 = As.reverse ++ .ref b :: st) (k1' k2' : Nat) (e1 : k1 + mc1 = k1') (e2 : k2 + ms1 = k2') (p1 : Nat) (hp : pc + 3 = p1) (hd : decode cc pc = .ok (.invokevirtual index, 3)) (kk : jSof F a = Tr → jW F nL k1' k2' κ' p1 lv (.ref a :: st)) : jW F nL k1 k2 κ pc lv st0 := by
  subst e1 e2
  exact r_callG C hM hY hlink hb hn hR hf hW hst p1 hp hd (fun r σ' h => ⟨κ', h.2.1, by rw [h.1]; exact kk h.2.2⟩) (fun _ _ h => h.elim)
/-- a string is answered -/
theorem r_cSs (C : jA F own cc nL fr mc ms lo) {n index nY fr1 mc1 ms1 lo1 i : Nat} {y : MethodName} {by0 : ByteArray} {rt : Option FieldType} {As st0 : List Value} {κ' : jKt}
    (hM : jM (jLof F) (jGof F) y by0 nY rt fr1 mc1 ms1 lo1 As (jSof F, κ) (jIs (some (.ref (jStr F i))) (jSof F, κ')) jNo) (hY : jYS y by0 nY rt n) (hlink : Cond.methodLink own index y ∈ TB) (hn : As.length = n) (hR : fr1 + 1 ≤ fr ∧ 8 + (nY + 11) + lo1 ≤ lo) (hf : k1 + mc1 ≤ mc ∧ k2 + ms1 ≤ ms) (hW : (st.map fun v => v.category).sum ≤ 8) (hst : st0 = As.reverse ++ st) (k1' k2' : Nat) (e1 : k1 + mc1 = k1') (e2 : k2 + ms1 = k2') (p1 : Nat) (hp : pc + 3 = p1) (hd : decode cc pc = .ok (.invokestatic index, 3)) (kk : jW F nL k1' k2' κ' p1 lv (.ref (jStr F i) :: st)) : jW F nL k1 k2 κ pc lv st0 := by
  subst e1 e2
  exact r_cS C hM hY hlink hn hR hf hW hst p1 hp hd kk
end JSTR
