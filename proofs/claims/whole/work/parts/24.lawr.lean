/-! ===== rows that only the law needs: long and double rows, handlers, calls of methods with handlers ===== -/
section JLR
variable {p : Program} {l : Launch} {e : Env} {R : Room} {s : State} {m : MethodId} {args : Array Value} {below : List Frame} {meth : Method} {c : Code} {Q : State → Prop} {G : jG} {own : String} {cc : ByteArray} {nL k1 k2 : Nat} {σ : jH} {pc : Nat} {lv : List (Nat × Value)} {st : List Value}
theorem j_lald (C : jC p l s m args meth c G own cc nL) {a n : Nat} {i : Int32} (ha : σ.1 a = (2, 3, n)) (hin : vp_in i n) (hdg : decode cc pc = .ok (.laload, 1)) (kk : jd p l e R s m args below meth c G nL Q k1 k2 σ (pc + 1) lv (.long (gL σ a i.toNatClampNeg) :: st)) : jd p l e R s m args below meth c G nL Q k1 k2 σ pc lv (.int i :: .ref a :: st) := by
  intro H9 locs9 ls9 hR hL hl
  have hlt : i.toNatClampNeg < n := Nat.not_le.mp fun q => hin (Or.inr q)
  obtain ⟨h8, hc⟩ := j_at hR (Or.inl ha)
  have hv := (hR.2 a i.toNatClampNeg).2 (by rw [ha]) (by rw [ha]; exact hlt)
  rw [ha] at hv
  exact W.lald (v := .long (gL σ a i.toNatClampNeg)) C.1.1 C.1.2.1 hc ((C.2.1.2 3 _ (jtys_at G (t := 3) (by decide))).1 n (σ.2 a)) (fun q => by cases q) (by rw [arrV_size]; exact hin) (by rw [arrV_read _ _ hlt, j_long hv rfl]) rfl rfl hdg (kk H9 locs9 ls9 hR hL hl)
theorem j_dald (C : jC p l s m args meth c G own cc nL) {a n : Nat} {i : Int32} (ha : σ.1 a = (2, 4, n)) (hin : vp_in i n) (hdg : decode cc pc = .ok (.daload, 1)) (kk : jd p l e R s m args below meth c G nL Q k1 k2 σ (pc + 1) lv (.double (gD σ a i.toNatClampNeg) :: st)) : jd p l e R s m args below meth c G nL Q k1 k2 σ pc lv (.int i :: .ref a :: st) := by
  intro H9 locs9 ls9 hR hL hl
  have hlt : i.toNatClampNeg < n := Nat.not_le.mp fun q => hin (Or.inr q)
  obtain ⟨h8, hc⟩ := j_at hR (Or.inl ha)
  have hv := (hR.2 a i.toNatClampNeg).2 (by rw [ha]) (by rw [ha]; exact hlt)
  rw [ha] at hv
  exact W.dald (v := .double (gD σ a i.toNatClampNeg)) C.1.1 C.1.2.1 hc ((C.2.1.2 4 _ (jtys_at G (t := 4) (by decide))).1 n (σ.2 a)) (fun q => by cases q) (by rw [arrV_size]; exact hin) (by rw [arrV_read _ _ hlt, j_double hv rfl]) rfl rfl hdg (kk H9 locs9 ls9 hR hL hl)
theorem j_last (C : jC p l s m args meth c G own cc nL) {a n : Nat} {i : Int32} {x : Int64} (ha : σ.1 a = (2, 3, n)) (hin : vp_in i n) (hdg : decode cc pc = .ok (.lastore, 1)) (kk : jd p l e R s m args below meth c G nL Q k1 k2 (pV σ a i.toNatClampNeg (.long x)) (pc + 1) lv st) : jd p l e R s m args below meth c G nL Q k1 k2 σ pc lv (.long x :: .int i :: .ref a :: st) := by
  intro H9 locs9 ls9 hR hL hl
  obtain ⟨h8, hc⟩ := j_at hR (Or.inl ha)
  refine W.last C.1.1 C.1.2.1 hc ((C.2.1.2 3 _ (jtys_at G (t := 3) (by decide))).1 n (σ.2 a)) (fun q => by cases q) (by rw [arrV_size]; exact hin) rfl rfl hdg fun H1 e1 z oq => ?_
  refine kk H1 _ ls9 (jR_apush hR (Or.inl ha) (fun _ => ⟨x, rfl⟩) e1 z oq) (fun q hq => ?_) hl
  rcases List.mem_append.mp hq with h | h
  · exact hL q h
  · rw [List.mem_singleton.mp h]
    exact (hR.1.2 a).1 (by rw [ha]; simp)
theorem j_dast (C : jC p l s m args meth c G own cc nL) {a n : Nat} {i : Int32} {x : UInt64} (ha : σ.1 a = (2, 4, n)) (hin : vp_in i n) (hdg : decode cc pc = .ok (.dastore, 1)) (kk : jd p l e R s m args below meth c G nL Q k1 k2 (pV σ a i.toNatClampNeg (.double x)) (pc + 1) lv st) : jd p l e R s m args below meth c G nL Q k1 k2 σ pc lv (.double x :: .int i :: .ref a :: st) := by
  intro H9 locs9 ls9 hR hL hl
  obtain ⟨h8, hc⟩ := j_at hR (Or.inl ha)
  refine W.dast C.1.1 C.1.2.1 hc ((C.2.1.2 4 _ (jtys_at G (t := 4) (by decide))).1 n (σ.2 a)) (fun q => by cases q) (by rw [arrV_size]; exact hin) rfl rfl hdg fun H1 e1 z oq => ?_
  refine kk H1 _ ls9 (jR_apush hR (Or.inl ha) (fun _ => ⟨x, rfl⟩) e1 z oq) (fun q hq => ?_) hl
  rcases List.mem_append.mp hq with h | h
  · exact hL q h
  · rw [List.mem_singleton.mp h]
    exact (hR.1.2 a).1 (by rw [ha]; simp)
end JLR
def jDh (F : jFm) (ret : Option FieldType) (hh : List (Nat × Nat × Nat × Nat)) (mc0 ms0 : Nat) : Prop :=
  match F with
  | (_, _, _, _, s, _, args, below, meth, c, G, _, Qr, Qx, mc, ms, Q) => meth.sig.returnType = ret ∧ c.exceptionTable.toList = tableOf hh ∧ mc = mc0 ∧ ms = ms0 ∧ Q = jEnd below G Qr Qx args s mc ms
def jBh (F : jFm) (own : String) (cc : ByteArray) (nL : Nat) (ret : Option FieldType) (hh : List (Nat × Nat × Nat × Nat)) (fr mc0 ms0 lo : Nat) : Prop := jA F own cc nL fr mc0 ms0 lo ∧ jDh F ret hh mc0 ms0
/-- a contract of a method with handlers -/
def jMh (l : Launch) (G : jG) (y : MethodName) (by0 : ByteArray) (nY : Nat) (ret : Option FieldType) (hh : List (Nat × Nat × Nat × Nat)) (fr mc ms lo : Nat) (av : List Value) (σ : jH) (Qr : Option Value → jH → Prop) (Qx : String → jH → Prop) : Prop :=
  vx_Met l y (Cond.codeWith y by0 nY ret hh :: TB) (jrm fr mc ms lo) (jP l G av σ) (jQ G Qr) (jX G Qx) mc ms (fun q => jbase G ≤ q)
def jYSh (y : MethodName) (by0 : ByteArray) (nY : Nat) (ret : Option FieldType) (hh : List (Nat × Nat × Nat × Nat)) (n : Nat) : Prop := Cond.static y ∈ TB ∧ Cond.initialized y.cls ∈ TB ∧ Cond.codeWith y by0 nY ret hh ∈ TB ∧ (y.cls ≠ "java/lang/invoke/MethodHandle" ∧ y.cls ≠ "java/lang/invoke/VarHandle") ∧ (parseMethodDescriptor y.desc).map (fun d => d.parameters.length) = some n
/-- the script, below the base -/
def jScr (F : jFm) (b L : Nat) (xs : Nat → Int32) : Prop := match F with
  | (_, _, _, _, s, _, _, _, _, _, G, _, _, _, _, _, _) => b < jbase G ∧ va_X b L xs s G.2.2.1
section JLR2
variable {F : jFm} {own : String} {cc : ByteArray} {nL k1 k2 fr mc ms lo pc : Nat} {ret : Option FieldType} {hh : List (Nat × Nat × Nat × Nat)} {κ : jKt} {lv lv' : List (Nat × Value)} {st : List Value}
theorem r_lald (C : jA F own cc nL fr mc ms lo) {a n : Nat} {i : Int32} (ha : jSof F a = (2, 3, n)) (hin : jin i n) (p1 : Nat) (hp : pc + 1 = p1) (hd : decode cc pc = .ok (.laload, 1)) (kk : jW F nL k1 k2 κ p1 lv (.long (kL κ a (ix i)) :: st)) : jW F nL k1 k2 κ pc lv (.int i :: .ref a :: st) := by
  obtain ⟨p, l, e, R, s, m, args, below, meth, c, G, sh, Qr, Qx, mc, ms, Q⟩ := F; subst hp; exact j_lald C.1 ha hin hd kk
theorem r_dald (C : jA F own cc nL fr mc ms lo) {a n : Nat} {i : Int32} (ha : jSof F a = (2, 4, n)) (hin : jin i n) (p1 : Nat) (hp : pc + 1 = p1) (hd : decode cc pc = .ok (.daload, 1)) (kk : jW F nL k1 k2 κ p1 lv (.double (kD κ a (ix i)) :: st)) : jW F nL k1 k2 κ pc lv (.int i :: .ref a :: st) := by
  obtain ⟨p, l, e, R, s, m, args, below, meth, c, G, sh, Qr, Qx, mc, ms, Q⟩ := F; subst hp; exact j_dald C.1 ha hin hd kk
theorem r_last (C : jA F own cc nL fr mc ms lo) {a n : Nat} {i : Int32} {x : Int64} {κ' : jKt} (ha : jSof F a = (2, 3, n)) (hin : jin i n) (hκ : κ' = kU κ a (ix i) (.long x)) (p1 : Nat) (hp : pc + 1 = p1) (hd : decode cc pc = .ok (.lastore, 1)) (kk : jW F nL k1 k2 κ' p1 lv st) : jW F nL k1 k2 κ pc lv (.long x :: .int i :: .ref a :: st) := by
  obtain ⟨p, l, e, R, s, m, args, below, meth, c, G, sh, Qr, Qx, mc, ms, Q⟩ := F; subst hκ hp; exact j_last C.1 ha hin hd kk
theorem r_dast (C : jA F own cc nL fr mc ms lo) {a n : Nat} {i : Int32} {x : UInt64} {κ' : jKt} (ha : jSof F a = (2, 4, n)) (hin : jin i n) (hκ : κ' = kU κ a (ix i) (.double x)) (p1 : Nat) (hp : pc + 1 = p1) (hd : decode cc pc = .ok (.dastore, 1)) (kk : jW F nL k1 k2 κ' p1 lv st) : jW F nL k1 k2 κ pc lv (.double x :: .int i :: .ref a :: st) := by
  obtain ⟨p, l, e, R, s, m, args, below, meth, c, G, sh, Qr, Qx, mc, ms, Q⟩ := F; subst hκ hp; exact j_dast C.1 ha hin hd kk
theorem r_fload (C : jA F own cc nL fr mc ms lo) {i : Nat} (j : Nat) {x : UInt32} (p1 : Nat) (hp : pc + 2 = p1) (hd : decode cc pc = .ok (.fload i, 2)) (hl : lv[j]? = some (i, .float x)) (kk : jW F nL k1 k2 κ p1 lv (.float x :: st)) : jW F nL k1 k2 κ pc lv st := by
  obtain ⟨p, l, e, R, s, m, args, below, meth, c, G, sh, Qr, Qx, mc, ms, Q⟩ := F; subst hp; exact fun H9 locs9 ls9 hR hL hv => lv_fload C.1.1.1 C.1.1.2.1 hd (lv_at hv j hl) (kk H9 locs9 ls9 hR hL hv)
theorem r_dload (C : jA F own cc nL fr mc ms lo) {i : Nat} (j : Nat) {x : UInt64} (p1 : Nat) (hp : pc + 2 = p1) (hd : decode cc pc = .ok (.dload i, 2)) (hl : lv[j]? = some (i, .double x)) (kk : jW F nL k1 k2 κ p1 lv (.double x :: st)) : jW F nL k1 k2 κ pc lv st := by
  obtain ⟨p, l, e, R, s, m, args, below, meth, c, G, sh, Qr, Qx, mc, ms, Q⟩ := F; subst hp; exact fun H9 locs9 ls9 hR hL hv => lv_dload C.1.1.1 C.1.1.2.1 hd (lv_at hv j hl) (kk H9 locs9 ls9 hR hL hv)
theorem r_fstore (C : jA F own cc nL fr mc ms lo) {i : Nat} {x : UInt32} (ks : List Nat) (p1 : Nat) (hp : pc + 2 = p1) (hd : decode cc pc = .ok (.fstore i, 2)) (hn : i < nL) (hk : lv_pick ((i, Value.float x) :: lv.filter (fun q => !(q.1 == i) && !(q.1 + 1 == i && q.2.category == 2))) ks = lv') (kk : jW F nL k1 k2 κ p1 lv' st) : jW F nL k1 k2 κ pc lv (.float x :: st) := by
  obtain ⟨p, l, e, R, s, m, args, below, meth, c, G, sh, Qr, Qx, mc, ms, Q⟩ := F; subst hp; exact fun H9 locs9 ls9 hR hL hv => lv_fstore C.1.1.1 C.1.1.2.1 hd hv hn rfl (fun ls8 hv8 => kk H9 locs9 ls8 hR hL (lv_sub hv8 ks hk))
theorem r_dstore (C : jA F own cc nL fr mc ms lo) {i : Nat} {x : UInt64} (ks : List Nat) (p1 : Nat) (hp : pc + 2 = p1) (hd : decode cc pc = .ok (.dstore i, 2)) (hn : i + 1 < nL) (hk : lv_pick ((i, Value.double x) :: lv.filter (fun q => !(q.1 == i) && (!(q.1 == i + 1) && !(q.1 + 1 == i && q.2.category == 2)))) ks = lv') (kk : jW F nL k1 k2 κ p1 lv' st) : jW F nL k1 k2 κ pc lv (.double x :: st) := by
  obtain ⟨p, l, e, R, s, m, args, below, meth, c, G, sh, Qr, Qx, mc, ms, Q⟩ := F; subst hp; exact fun H9 locs9 ls9 hR hL hv => lv_dstore C.1.1.1 C.1.1.2.1 hd hv hn rfl (fun ls8 hv8 => kk H9 locs9 ls8 hR hL (lv_sub hv8 ks hk))
theorem r_fcmp (C : jA F own cc nL fr mc ms lo) {x y : UInt32} {op : CmpOp} (p1 : Nat) (hp : pc + 1 = p1) (hd : decode cc pc = .ok (.fcmp op, 1)) (kk : jW F nL k1 k2 κ p1 lv (.int (Op.cmpValue (FP.fcmp x y) op) :: st)) : jW F nL k1 k2 κ pc lv (.float y :: .float x :: st) := by
  obtain ⟨p, l, e, R, s, m, args, below, meth, c, G, sh, Qr, Qx, mc, ms, Q⟩ := F; subst hp; exact fun H9 locs9 ls9 hR hL hv => lv_fcmp C.1.1.1 C.1.1.2.1 hd (kk H9 locs9 ls9 hR hL hv)
theorem r_slen (C : jA F own cc nL fr mc ms lo) {b L : Nat} {xs : Nat → Int32} (hX : jScr F b L xs) (p1 : Nat) (hp : pc + 1 = p1) (hd : decode cc pc = .ok (.arraylength, 1)) (kk : jW F nL k1 k2 κ p1 lv (.int (Int32.ofNat L) :: st)) : jW F nL k1 k2 κ pc lv (.ref b :: st) := by
  obtain ⟨p, l, e, R, s, m, args, below, meth, c, G, sh, Qr, Qx, mc, ms, Q⟩ := F
  subst hp
  obtain ⟨hb, scr, h1, h2, h3, h4, h5⟩ := hX
  exact fun H9 locs9 ls9 hR hL hv => W.alen (n := Int32.ofNat L) C.1.1.1 C.1.1.2.1 (by rw [hR.1.1.1 b hb]; exact h1) h2 (by rw [h4] <;> rfl) rfl rfl hd (kk H9 locs9 ls9 hR hL hv)
theorem r_sld (C : jA F own cc nL fr mc ms lo) {b L : Nat} {xs : Nat → Int32} {i : Int32} (hX : jScr F b L xs) (hin : jin i L) (p1 : Nat) (hp : pc + 1 = p1) (hd : decode cc pc = .ok (.iaload, 1)) (kk : jW F nL k1 k2 κ p1 lv (.int (xs (ix i)) :: st)) : jW F nL k1 k2 κ pc lv (.int i :: .ref b :: st) := by
  obtain ⟨p, l, e, R, s, m, args, below, meth, c, G, sh, Qr, Qx, mc, ms, Q⟩ := F
  subst hp
  obtain ⟨hb, scr, h1, h2, h3, h4, h5⟩ := hX
  have hlt : i.toNatClampNeg < L := Nat.not_le.mp fun q => hin (Or.inr q)
  exact fun H9 locs9 ls9 hR hL hv => W.iald (v := .int (xs i.toNatClampNeg)) C.1.1.1 C.1.1.2.1 (by rw [hR.1.1.1 b hb]; exact h1) h2 h3 (by rw [h4]; exact hin) (h5 _ hlt) rfl rfl hd (kk H9 locs9 ls9 hR hL hv)
theorem r_zretH (C : jBh F own cc nL ret hh fr mc ms lo) {x : Int32} {ty : FieldType} (hr : ret = some ty) (hn : narrow ty (.int x) = .int x) (h1 : k1 ≤ mc) (h2 : k2 ≤ ms) (hd : decode cc pc = .ok (.ireturn, 1)) (hq : jOut F (some (.int x)) κ) : jW F nL k1 k2 κ pc lv [.int x] := by
  obtain ⟨p, l, e, R, s, m, args, below, meth, c, G, sh, Qr, Qx, mc, ms, Q⟩ := F
  obtain ⟨⟨C1, C4⟩, C2, C3, C5, C6, C7⟩ := C
  subst C5 C6 C7
  exact j_zret C1 (C2.trans hr) hn h1 h2 hd hq
/-- E is thrown at pc, and the row x of the table takes it -/
theorem r_catch (C : jBh F own cc nL ret hh fr mc ms lo) {E : String} (pre suf : List (Nat × Nat × Nat × Nat)) (f t hpc ct : Nat) (hs : hh = pre ++ (f, t, hpc, ct) :: suf) (hpass : ∀ z ∈ pre, z.2.2.2 ≠ 0 ∧ ∃ nm, Cond.classLink own z.2.2.2 nm ∈ TB ∧ nm ∈ jexc ∧ E ≠ nm) (hE : E ∈ jexc) (hx : f ≤ pc ∧ pc < t) (h0 : ct ≠ 0) (hl : Cond.classLink own ct E ∈ TB) (hc : Cond.castable E E ∈ TB)
    (kk : ∀ q : Nat, jW F nL k1 k2 κ hpc lv [.ref q]) : jWx F nL k1 k2 E κ pc lv st := by
  obtain ⟨p, l, e, R, s, m, args, below, meth, c, G, sh, Qr, Qx, mc, ms, Q⟩ := F
  obtain ⟨⟨C1, C4⟩, C2, C3, C5, C6, C7⟩ := C
  have hts := C1.1.2.2.2.2
  intro H9 locs9 ls9 ce q hR hL hv hce hcv hcl
  refine vx_catch (E := E) C1.1.2.2.2.1 (tableOf pre) ⟨f, t, hpc, ct⟩ (tableOf suf) ?_ ?_ ?_ h0 (hts _ hl) (hts _ hc) hce hcv hcl (kk q H9 locs9 ls9 hR hL hv)
  · rw [C3, hs]
    simp [tableOf]
  · intro z hz
    obtain ⟨w, hw, rfl⟩ := List.mem_map.mp hz
    obtain ⟨g1, nm, g2, g3, g4⟩ := hpass w hw
    exact Or.inr ⟨g1, nm, hts _ g2, C1.2.2.2.2.2.2.2.2.2.2.2.1 E hE nm g3 g4⟩
  · simp only [covers, Bool.and_eq_true, decide_eq_true_eq]
    exact hx
theorem r_bodyH {l : Launch} {G : jG} {y : MethodName} {by0 : ByteArray} {nY : Nat} {rt : Option FieldType} {av : List Value} {sh : jSh} {Qr : Option Value → jH → Prop} {Qx : String → jH → Prop} (hy : plainName y.cls = true) (hn : (lg_sl av).length ≤ nY)
    (body : ∀ F : jFm, jBh F y.cls by0 nY rt hh fr mc ms lo → jLof F = l → jGof F = G → jSof F = sh → (∀ r κ', jOut F r κ' = Qr r (sh, κ')) → (∀ E κ', jThr F E κ' = Qx E (sh, κ')) → jW F nY 0 0 κ 0 (lv_args 0 av) []) : jMh l G y by0 nY rt hh fr mc ms lo av (sh, κ) Qr Qx := by
  refine vx_ofWH (cc := by0) (maxL := nY) (ret := rt) (hh := hh) hy rfl ?_
  intro p e s m args below meth c s₁ B hml hv
  obtain ⟨rfl, hR, hK, hE⟩ := hv
  have hts := atoms_spec (ws := Cond.codeWith y by0 nY rt hh :: TB) B.pre
  have htab : c.exceptionTable.toList = tableOf hh := vx_table (x := y) B (hts _ List.mem_cons_self)
  have hl := lv_entry av (n := nY) hn
  rw [lg_entry_eq]
  exact body (p, l, e, jrm fr mc ms lo, s, m, _, below, meth, c, G, sh, Qr, Qx, mc, ms, jEnd below G Qr Qx av.toArray s mc ms) ⟨⟨⟨⟨B.exec, B.bytes, hml, findClass_of_methodNamed B.named, fun w h => hts w (List.mem_cons_of_mem _ h)⟩, hK, B.notSynchronized, hE⟩, rfl⟩, B.returns, htab, rfl, rfl, rfl⟩ rfl rfl rfl (fun _ _ => rfl) (fun _ _ => rfl) s.heap [] _ hR (fun z hz => absurd hz List.not_mem_nil) hl
/-- a static method with handlers is called: it answers an int -/
theorem r_cSh (C : jA F own cc nL fr mc ms lo) {n index nY fr1 mc1 ms1 lo1 : Nat} {y : MethodName} {by0 : ByteArray} {rt : Option FieldType} {As st0 : List Value} {κ' : jKt} {x : Int32}
    (hM : jMh (jLof F) (jGof F) y by0 nY rt hh fr1 mc1 ms1 lo1 As (jSof F, κ) (jIs (some (.int x)) (jSof F, κ')) jNo) (hY : jYSh y by0 nY rt hh n) (hlink : Cond.methodLink own index y ∈ TB) (hn : As.length = n) (hR : fr1 + 1 ≤ fr ∧ 8 + (nY + 11) + lo1 ≤ lo) (hf : k1 + mc1 ≤ mc ∧ k2 + ms1 ≤ ms) (hW : (st.map fun v => v.category).sum ≤ 8) (hst : st0 = As.reverse ++ st) (k1' k2' : Nat) (e1 : k1 + mc1 = k1') (e2 : k2 + ms1 = k2') (p1 : Nat) (hp : pc + 3 = p1) (hd : decode cc pc = .ok (.invokestatic index, 3))
    (kk : jW F nL k1' k2' κ' p1 lv (.int x :: st)) : jW F nL k1 k2 κ pc lv st0 := by
  obtain ⟨p, l, e, R, s, m, args, below, meth, c, G, sh, Qr, Qx, mc, ms, Q⟩ := F
  obtain ⟨C1, C4⟩ := C
  subst C4 hp e1 e2
  obtain ⟨y1, y3, y4, y5, y6⟩ := hY
  have hts := C1.1.2.2.2.2
  refine j_run (a := As.toArray) (Qr := jIs (some (.int x)) (sh, κ')) (Qx := jNo) (mc := mc1) (ms := ms1) (st := st) (fun H9 locs9 ls9 hR1 hl => ?_) (fun r σ' h => ?_) (fun _ _ h => h.elim)
  · have hws : ∀ w ∈ Cond.codeWith y by0 nY rt hh :: TB, ∀ (a' : Array Value) (U : State), s.WarmedH U.vm → w.before a' U = true := by
      intro w hw
      rcases List.mem_cons.mp hw with h | h
      · subst h; exact TB_pay hts _ y4
      · exact TB_pay hts _ h
    refine vx_runSX (hh := hh) C1.1 hM ⟨⟨rfl, rfl, hR.1, hR.2, hws, List.mem_cons_self⟩, hts _ y4, hts _ y3, y5, fun sig h => ?_, hts _ hlink, hts _ y1⟩ ⟨jP_blind, fun U hU hWr => ⟨rfl, by rw [hU]; exact hR1, va_K.moved hWr.alike C1.2.1, jE.moved hWr C1.2.2.2⟩⟩ rfl hn hl.1 hst (lv_room hW) hd hf
    rw [h] at y6
    exact (Option.some.inj y6).symm
  · obtain ⟨rfl, rfl⟩ := h
    exact kk
end JLR2
