/-! ===== the judgement with its frame in one name ===== -/
abbrev jKt : Type := Nat → Nat → Value
abbrev jSh : Type := Nat → Nat × Nat × Nat
abbrev jFm : Type := Program × Launch × Env × Room × State × MethodId × Array Value × List Frame × Method × Code × jG × jSh × (Option Value → jH → Prop) × (String → jH → Prop) × Nat × Nat × (State → Prop)
def jW (F : jFm) (nL k1 k2 : Nat) (κ : jKt) (pc : Nat) (lv : List (Nat × Value)) (st : List Value) : Prop :=
  match F with
  | (p, l, e, R, s, m, args, below, meth, c, G, sh, _, _, _, _, Q) => jd p l e R s m args below meth c G nL Q k1 k2 (sh, κ) pc lv st
/-- thrown: the class of what is thrown -/
def jWx (F : jFm) (nL k1 k2 : Nat) (E : String) (κ : jKt) (pc : Nat) (lv : List (Nat × Value)) (st : List Value) : Prop :=
  match F with
  | (p, l, e, R, s, m, args, below, meth, c, G, sh, _, _, _, _, Q) => jdx p l e R s m args below meth c G nL Q k1 k2 E (sh, κ) pc lv st
def jA (F : jFm) (own : String) (cc : ByteArray) (nL fr mc0 ms0 lo : Nat) : Prop :=
  match F with
  | (p, l, _, R, s, m, args, _, meth, c, G, _, _, _, _, _, _) => jC p l s m args meth c G own cc nL ∧ R = jrm fr mc0 ms0 lo
def jD (F : jFm) (ret : Option FieldType) (mc0 ms0 : Nat) : Prop :=
  match F with
  | (_, _, _, _, s, _, args, below, meth, c, G, _, Qr, Qx, mc, ms, Q) => meth.sig.returnType = ret ∧ (∀ x ∈ c.exceptionTable.toList, False) ∧ mc = mc0 ∧ ms = ms0 ∧ Q = jEnd below G Qr Qx args s mc ms
def jB (F : jFm) (own : String) (cc : ByteArray) (nL : Nat) (ret : Option FieldType) (fr mc0 ms0 lo : Nat) : Prop := jA F own cc nL fr mc0 ms0 lo ∧ jD F ret mc0 ms0
/-- the one throw: of class E, the pure heap σ' -/
def jXs (E : String) (σ' : jH) : String → jH → Prop := fun E1 σ1 => E1 = E ∧ σ1 = σ'
def jSof (F : jFm) : jSh := F.2.2.2.2.2.2.2.2.2.2.2.1
def jGof (F : jFm) : jG := F.2.2.2.2.2.2.2.2.2.2.1
def jLof (F : jFm) : Launch := F.2.1
def jOut (F : jFm) (r : Option Value) (κ : jKt) : Prop := F.2.2.2.2.2.2.2.2.2.2.2.2.1 r (jSof F, κ)
def jThr (F : jFm) (E : String) (κ : jKt) : Prop := F.2.2.2.2.2.2.2.2.2.2.2.2.2.1 E (jSof F, κ)
def jFinX {α : Type} (F : jFm) (vf : α → Option Value) (r : Except String α) (κ : jKt) : Prop := match r with
  | .ok a => jOut F (vf a) κ
  | .error E => jThr F E κ
/-! what a pure method is made of -/
def ck {α : Type} (c : Prop) [Decidable c] (e : Option α) : Option α := if c then e else none
theorem ck_some {α : Type} {c : Prop} [Decidable c] {e : Option α} {r : α} (h : ck c e = some r) : c ∧ e = some r := by
  unfold ck at h
  by_cases hc : c
  · rw [if_pos hc] at h; exact ⟨hc, h⟩
  · rw [if_neg hc] at h; cases h
theorem ck_t {α : Type} {c : Prop} [Decidable c] {e : Option α} (hc : c) : ck c e = e := if_pos hc
def bnd {α β : Type} (x : α) (f : α → Option β) : Option β := f x
theorem bnd_some {α β : Type} {x : α} {f : α → Option β} {r : β} (h : bnd x f = some r) : ∃ y, y = x ∧ f y = some r := ⟨x, rfl, h⟩
def bd {α β : Type} (x : Option α) (f : α → Option β) : Option β := match x with
  | none => none
  | some a => f a
theorem bd_some {α β : Type} {x : Option α} {f : α → Option β} {r : β} (h : bd x f = some r) : ∃ y, x = some y ∧ f y = some r := by
  unfold bd at h
  cases x with
  | none => cases h
  | some a => exact ⟨a, rfl, h⟩
theorem if_some_t {α : Type} {c : Prop} [Decidable c] {a b : Option α} {r : α} (hc : c) (h : (if c then a else b) = some r) : a = some r := by rw [if_pos hc] at h; exact h
theorem if_some_f {α : Type} {c : Prop} [Decidable c] {a b : Option α} {r : α} (hc : ¬ c) (h : (if c then a else b) = some r) : b = some r := by rw [if_neg hc] at h; exact h
abbrev jin (i : Int32) (n : Nat) : Prop := ¬ (i < 0 ∨ n ≤ i.toNatClampNeg)
def kI (κ : jKt) (a j : Nat) : Int32 := match κ a j with
  | .int x => x
  | _ => 0
def kL (κ : jKt) (a j : Nat) : Int64 := match κ a j with
  | .long x => x
  | _ => 0
def kD (κ : jKt) (a j : Nat) : UInt64 := match κ a j with
  | .double x => x
  | _ => 0
def kR (κ : jKt) (a j : Nat) : Nat := match κ a j with
  | .ref x => x
  | _ => 0
def kU (κ : jKt) (a j : Nat) (v : Value) : jKt := fun b k => if b = a ∧ k = j then v else κ b k
def ix (i : Int32) : Nat := i.toNatClampNeg
def i2c (x : Int32) : Int32 := (x.toUInt32 % 65536).toInt32
def irem (x y : Int32) : Int32 := x - x / y * y
abbrev jz (x : Int32) : Prop := x = 0 ∨ x = 1
abbrev jch (x : Int32) : Prop := x.toUInt32.toUInt16.toUInt32.toInt32 = x
theorem jch_narrow {x : Int32} (h : jch x) : narrow .char (.int x) = .int x := congrArg Value.int h
theorem jz_narrow {x : Int32} (h : jz x) : narrow .boolean (.int x) = .int x := by
  rcases h with h | h <;> subst h <;> rfl
/-- the shape and the words of a field that an instruction names -/
def jFld (own : String) (index i N k : Nat) : Prop := ∃ (C1 : String) (T : u_T), vwCl[i]? = some (C1, T, N) ∧ (∀ w ∈ u_ws C1 T N, w ∈ TB) ∧ k < N ∧ (Cond.fieldLink own index (T k).1 (T k).2.1 (T k).2.2.1 ∈ TB ∨ ∃ host, Cond.fieldLinkNest own index (T k).1 (T k).2.1 (T k).2.2.1 host ∈ TB)
/-- .. of one that may be written, its type -/
def jFlw (own : String) (index i N k : Nat) (ft : FieldType) : Prop := ∃ (C1 : String) (T : u_T) (ty0 : Nat → FieldType), vwCl[i]? = some (C1, T, N) ∧ (∀ w ∈ u_ws C1 T N, w ∈ TB) ∧ (∀ k, k < N → parseFieldDescriptor (T k).2.2.1 = some (ty0 k)) ∧ (∀ a, a < N → ∀ b, b < N → a ≠ b → (T a).2.1 ≠ (T b).2.1) ∧ k < N ∧ (T k).2.2.2 = false ∧ ty0 k = ft ∧ (Cond.fieldLink own index (T k).1 (T k).2.1 (T k).2.2.1 ∈ TB ∨ ∃ host, Cond.fieldLinkNest own index (T k).1 (T k).2.1 (T k).2.2.1 host ∈ TB)
section JW
variable {F : jFm} {own : String} {cc : ByteArray} {nL k1 k2 fr mc ms lo pc : Nat} {ret : Option FieldType} {κ : jKt} {lv lv' : List (Nat × Value)} {st : List Value}
theorem r_lv (ks : List Nat) (h : lv_pick lv ks = lv') (kk : jW F nL k1 k2 κ pc lv' st) : jW F nL k1 k2 κ pc lv st := by
  obtain ⟨p, l, e, R, s, m, args, below, meth, c, G, sh, Qr, Qx, mc, ms, Q⟩ := F; exact jd_lv ks h kk
theorem r_wt (kk : jWT (jSof F, κ) → jW F nL k1 k2 κ pc lv st) : jW F nL k1 k2 κ pc lv st := by
  obtain ⟨p, l, e, R, s, m, args, below, meth, c, G, sh, Qr, Qx, mc, ms, Q⟩ := F; exact jd_wt kk
theorem r_top {x y : Int32} (h : y = x) (kk : jW F nL k1 k2 κ pc lv (.int y :: st)) : jW F nL k1 k2 κ pc lv (.int x :: st) := by rw [← h]; exact kk
theorem r_iconst (C : jA F own cc nL fr mc ms lo) {n : Int} (v : Int32) (hv : Int32.ofInt n = v) (p1 : Nat) (hp : pc + 1 = p1) (hd : decode cc pc = .ok (.iconst n, 1)) (kk : jW F nL k1 k2 κ p1 lv (.int v :: st)) : jW F nL k1 k2 κ pc lv st := by
  obtain ⟨p, l, e, R, s, m, args, below, meth, c, G, sh, Qr, Qx, mc, ms, Q⟩ := F; subst hp; exact j_iconst C.1 v hv hd kk
theorem r_bipush (C : jA F own cc nL fr mc ms lo) {n : Int} (v : Int32) (hv : (Int8.ofInt n).toInt32 = v) (p1 : Nat) (hp : pc + 2 = p1) (hd : decode cc pc = .ok (.bipush n, 2)) (kk : jW F nL k1 k2 κ p1 lv (.int v :: st)) : jW F nL k1 k2 κ pc lv st := by
  obtain ⟨p, l, e, R, s, m, args, below, meth, c, G, sh, Qr, Qx, mc, ms, Q⟩ := F; subst hp; exact j_bipush C.1 v hv hd kk
theorem r_sipush (C : jA F own cc nL fr mc ms lo) {n : Int} (v : Int32) (hv : (Int16.ofInt n).toInt32 = v) (p1 : Nat) (hp : pc + 3 = p1) (hd : decode cc pc = .ok (.sipush n, 3)) (kk : jW F nL k1 k2 κ p1 lv (.int v :: st)) : jW F nL k1 k2 κ pc lv st := by
  obtain ⟨p, l, e, R, s, m, args, below, meth, c, G, sh, Qr, Qx, mc, ms, Q⟩ := F; subst hp; exact j_sipush C.1 v hv hd kk
theorem r_null (C : jA F own cc nL fr mc ms lo) (p1 : Nat) (hp : pc + 1 = p1) (hd : decode cc pc = .ok (.aconst_null, 1)) (kk : jW F nL k1 k2 κ p1 lv (.null :: st)) : jW F nL k1 k2 κ pc lv st := by
  obtain ⟨p, l, e, R, s, m, args, below, meth, c, G, sh, Qr, Qx, mc, ms, Q⟩ := F; subst hp; exact j_null C.1  hd kk
theorem r_iload_n (C : jA F own cc nL fr mc ms lo) {i : Fin 4} (j : Nat) {x : Int32} (p1 : Nat) (hp : pc + 1 = p1) (hd : decode cc pc = .ok (.iload_n i, 1)) (hl : lv[j]? = some ((i : Nat), .int x)) (kk : jW F nL k1 k2 κ p1 lv (.int x :: st)) : jW F nL k1 k2 κ pc lv st := by
  obtain ⟨p, l, e, R, s, m, args, below, meth, c, G, sh, Qr, Qx, mc, ms, Q⟩ := F; subst hp; exact j_iload_n C.1 j hd hl kk
theorem r_iload (C : jA F own cc nL fr mc ms lo) {i : Nat} (j : Nat) {x : Int32} (p1 : Nat) (hp : pc + 2 = p1) (hd : decode cc pc = .ok (.iload i, 2)) (hl : lv[j]? = some (i, .int x)) (kk : jW F nL k1 k2 κ p1 lv (.int x :: st)) : jW F nL k1 k2 κ pc lv st := by
  obtain ⟨p, l, e, R, s, m, args, below, meth, c, G, sh, Qr, Qx, mc, ms, Q⟩ := F; subst hp; exact j_iload C.1 j hd hl kk
theorem r_aload_n (C : jA F own cc nL fr mc ms lo) {i : Fin 4} (j : Nat) {x : Nat} (p1 : Nat) (hp : pc + 1 = p1) (hd : decode cc pc = .ok (.aload_n i, 1)) (hl : lv[j]? = some ((i : Nat), .ref x)) (kk : jW F nL k1 k2 κ p1 lv (.ref x :: st)) : jW F nL k1 k2 κ pc lv st := by
  obtain ⟨p, l, e, R, s, m, args, below, meth, c, G, sh, Qr, Qx, mc, ms, Q⟩ := F; subst hp; exact j_aload_n C.1 j hd hl kk
theorem r_aload (C : jA F own cc nL fr mc ms lo) {i : Nat} (j : Nat) {x : Nat} (p1 : Nat) (hp : pc + 2 = p1) (hd : decode cc pc = .ok (.aload i, 2)) (hl : lv[j]? = some (i, .ref x)) (kk : jW F nL k1 k2 κ p1 lv (.ref x :: st)) : jW F nL k1 k2 κ pc lv st := by
  obtain ⟨p, l, e, R, s, m, args, below, meth, c, G, sh, Qr, Qx, mc, ms, Q⟩ := F; subst hp; exact j_aload C.1 j hd hl kk
theorem r_istore_n (C : jA F own cc nL fr mc ms lo) {i : Fin 4} {x : Int32} (ks : List Nat) (p1 : Nat) (hp : pc + 1 = p1) (hd : decode cc pc = .ok (.istore_n i, 1)) (hn : (i : Nat) < nL) (hk : lv_pick (((i : Nat), Value.int x) :: lv.filter (fun q => !(q.1 == (i : Nat)) && !(q.1 + 1 == (i : Nat) && q.2.category == 2))) ks = lv') (kk : jW F nL k1 k2 κ p1 lv' st) : jW F nL k1 k2 κ pc lv (.int x :: st) := by
  obtain ⟨p, l, e, R, s, m, args, below, meth, c, G, sh, Qr, Qx, mc, ms, Q⟩ := F; subst hp; exact j_istore_n C.1 ks hd hn hk kk
theorem r_istore (C : jA F own cc nL fr mc ms lo) {i : Nat} {x : Int32} (ks : List Nat) (p1 : Nat) (hp : pc + 2 = p1) (hd : decode cc pc = .ok (.istore i, 2)) (hn : i < nL) (hk : lv_pick ((i, Value.int x) :: lv.filter (fun q => !(q.1 == i) && !(q.1 + 1 == i && q.2.category == 2))) ks = lv') (kk : jW F nL k1 k2 κ p1 lv' st) : jW F nL k1 k2 κ pc lv (.int x :: st) := by
  obtain ⟨p, l, e, R, s, m, args, below, meth, c, G, sh, Qr, Qx, mc, ms, Q⟩ := F; subst hp; exact j_istore C.1 ks hd hn hk kk
theorem r_astore_n (C : jA F own cc nL fr mc ms lo) {i : Fin 4} {x : Nat} (ks : List Nat) (p1 : Nat) (hp : pc + 1 = p1) (hd : decode cc pc = .ok (.astore_n i, 1)) (hn : (i : Nat) < nL) (hk : lv_pick (((i : Nat), Value.ref x) :: lv.filter (fun q => !(q.1 == (i : Nat)) && !(q.1 + 1 == (i : Nat) && q.2.category == 2))) ks = lv') (kk : jW F nL k1 k2 κ p1 lv' st) : jW F nL k1 k2 κ pc lv (.ref x :: st) := by
  obtain ⟨p, l, e, R, s, m, args, below, meth, c, G, sh, Qr, Qx, mc, ms, Q⟩ := F; subst hp; exact j_astore_n C.1 ks hd hn hk kk
theorem r_astore (C : jA F own cc nL fr mc ms lo) {i : Nat} {x : Nat} (ks : List Nat) (p1 : Nat) (hp : pc + 2 = p1) (hd : decode cc pc = .ok (.astore i, 2)) (hn : i < nL) (hk : lv_pick ((i, Value.ref x) :: lv.filter (fun q => !(q.1 == i) && !(q.1 + 1 == i && q.2.category == 2))) ks = lv') (kk : jW F nL k1 k2 κ p1 lv' st) : jW F nL k1 k2 κ pc lv (.ref x :: st) := by
  obtain ⟨p, l, e, R, s, m, args, below, meth, c, G, sh, Qr, Qx, mc, ms, Q⟩ := F; subst hp; exact j_astore C.1 ks hd hn hk kk
theorem r_iinc (C : jA F own cc nL fr mc ms lo) {i : Nat} (j : Nat) {n : Int} {x v : Int32} (ks : List Nat) (p1 : Nat) (hp : pc + 3 = p1) (hd : decode cc pc = .ok (.iinc i n, 3)) (hl : lv[j]? = some (i, .int x)) (hn : i < nL) (hw : x + Int32.ofInt n = v) (hk : lv_pick ((i, Value.int v) :: lv.filter (fun q => !(q.1 == i) && !(q.1 + 1 == i && q.2.category == 2))) ks = lv') (kk : jW F nL k1 k2 κ p1 lv' st) : jW F nL k1 k2 κ pc lv st := by
  obtain ⟨p, l, e, R, s, m, args, below, meth, c, G, sh, Qr, Qx, mc, ms, Q⟩ := F; subst hp; exact j_iinc C.1 j ks hd hl hn hw hk kk
theorem r_iadd (C : jA F own cc nL fr mc ms lo) {x y : Int32} (p1 : Nat) (hp : pc + 1 = p1) (hd : decode cc pc = .ok (.iadd, 1)) (kk : jW F nL k1 k2 κ p1 lv (.int (x + y) :: st)) : jW F nL k1 k2 κ pc lv (.int y :: .int x :: st) := by
  obtain ⟨p, l, e, R, s, m, args, below, meth, c, G, sh, Qr, Qx, mc, ms, Q⟩ := F; subst hp; exact j_iadd C.1  hd kk
theorem r_isub (C : jA F own cc nL fr mc ms lo) {x y : Int32} (p1 : Nat) (hp : pc + 1 = p1) (hd : decode cc pc = .ok (.isub, 1)) (kk : jW F nL k1 k2 κ p1 lv (.int (x - y) :: st)) : jW F nL k1 k2 κ pc lv (.int y :: .int x :: st) := by
  obtain ⟨p, l, e, R, s, m, args, below, meth, c, G, sh, Qr, Qx, mc, ms, Q⟩ := F; subst hp; exact j_isub C.1  hd kk
theorem r_imul (C : jA F own cc nL fr mc ms lo) {x y : Int32} (p1 : Nat) (hp : pc + 1 = p1) (hd : decode cc pc = .ok (.imul, 1)) (kk : jW F nL k1 k2 κ p1 lv (.int (x * y) :: st)) : jW F nL k1 k2 κ pc lv (.int y :: .int x :: st) := by
  obtain ⟨p, l, e, R, s, m, args, below, meth, c, G, sh, Qr, Qx, mc, ms, Q⟩ := F; subst hp; exact j_imul C.1  hd kk
theorem r_iand (C : jA F own cc nL fr mc ms lo) {x y : Int32} (p1 : Nat) (hp : pc + 1 = p1) (hd : decode cc pc = .ok (.iand, 1)) (kk : jW F nL k1 k2 κ p1 lv (.int (x &&& y) :: st)) : jW F nL k1 k2 κ pc lv (.int y :: .int x :: st) := by
  obtain ⟨p, l, e, R, s, m, args, below, meth, c, G, sh, Qr, Qx, mc, ms, Q⟩ := F; subst hp; exact j_iand C.1  hd kk
theorem r_ior (C : jA F own cc nL fr mc ms lo) {x y : Int32} (p1 : Nat) (hp : pc + 1 = p1) (hd : decode cc pc = .ok (.ior, 1)) (kk : jW F nL k1 k2 κ p1 lv (.int (x ||| y) :: st)) : jW F nL k1 k2 κ pc lv (.int y :: .int x :: st) := by
  obtain ⟨p, l, e, R, s, m, args, below, meth, c, G, sh, Qr, Qx, mc, ms, Q⟩ := F; subst hp; exact j_ior C.1  hd kk
theorem r_ixor (C : jA F own cc nL fr mc ms lo) {x y : Int32} (p1 : Nat) (hp : pc + 1 = p1) (hd : decode cc pc = .ok (.ixor, 1)) (kk : jW F nL k1 k2 κ p1 lv (.int (x ^^^ y) :: st)) : jW F nL k1 k2 κ pc lv (.int y :: .int x :: st) := by
  obtain ⟨p, l, e, R, s, m, args, below, meth, c, G, sh, Qr, Qx, mc, ms, Q⟩ := F; subst hp; exact j_ixor C.1  hd kk
theorem r_ishl (C : jA F own cc nL fr mc ms lo) {x y : Int32} (p1 : Nat) (hp : pc + 1 = p1) (hd : decode cc pc = .ok (.ishl, 1)) (kk : jW F nL k1 k2 κ p1 lv (.int (x <<< (y &&& 31)) :: st)) : jW F nL k1 k2 κ pc lv (.int y :: .int x :: st) := by
  obtain ⟨p, l, e, R, s, m, args, below, meth, c, G, sh, Qr, Qx, mc, ms, Q⟩ := F; subst hp; exact j_ishl C.1  hd kk
theorem r_ishr (C : jA F own cc nL fr mc ms lo) {x y : Int32} (p1 : Nat) (hp : pc + 1 = p1) (hd : decode cc pc = .ok (.ishr, 1)) (kk : jW F nL k1 k2 κ p1 lv (.int (x >>> (y &&& 31)) :: st)) : jW F nL k1 k2 κ pc lv (.int y :: .int x :: st) := by
  obtain ⟨p, l, e, R, s, m, args, below, meth, c, G, sh, Qr, Qx, mc, ms, Q⟩ := F; subst hp; exact j_ishr C.1  hd kk
theorem r_idiv (C : jA F own cc nL fr mc ms lo) {x y : Int32} (p1 : Nat) (hp : pc + 1 = p1) (hd : decode cc pc = .ok (.idiv, 1)) (hne : ¬ y = 0) (kk : jW F nL k1 k2 κ p1 lv (.int (x / y) :: st)) : jW F nL k1 k2 κ pc lv (.int y :: .int x :: st) := by
  obtain ⟨p, l, e, R, s, m, args, below, meth, c, G, sh, Qr, Qx, mc, ms, Q⟩ := F; subst hp; exact j_idiv C.1 hd hne kk
theorem r_irem (C : jA F own cc nL fr mc ms lo) {x y : Int32} (p1 : Nat) (hp : pc + 1 = p1) (hd : decode cc pc = .ok (.irem, 1)) (hne : ¬ y = 0) (kk : jW F nL k1 k2 κ p1 lv (.int (irem x y) :: st)) : jW F nL k1 k2 κ pc lv (.int y :: .int x :: st) := by
  obtain ⟨p, l, e, R, s, m, args, below, meth, c, G, sh, Qr, Qx, mc, ms, Q⟩ := F; subst hp; exact j_irem C.1 hd hne kk
theorem r_i2c (C : jA F own cc nL fr mc ms lo) {x : Int32} (p1 : Nat) (hp : pc + 1 = p1) (hd : decode cc pc = .ok (.i2c, 1)) (kk : jW F nL k1 k2 κ p1 lv (.int (i2c x) :: st)) : jW F nL k1 k2 κ pc lv (.int x :: st) := by
  obtain ⟨p, l, e, R, s, m, args, below, meth, c, G, sh, Qr, Qx, mc, ms, Q⟩ := F; subst hp; exact j_i2c C.1  hd kk
theorem r_i2l (C : jA F own cc nL fr mc ms lo) {x : Int32} (p1 : Nat) (hp : pc + 1 = p1) (hd : decode cc pc = .ok (.i2l, 1)) (kk : jW F nL k1 k2 κ p1 lv (.long x.toInt64 :: st)) : jW F nL k1 k2 κ pc lv (.int x :: st) := by
  obtain ⟨p, l, e, R, s, m, args, below, meth, c, G, sh, Qr, Qx, mc, ms, Q⟩ := F; subst hp; exact j_i2l C.1  hd kk
theorem r_dup (C : jA F own cc nL fr mc ms lo) {v : Value} (hv : v.category = 1) (p1 : Nat) (hp : pc + 1 = p1) (hd : decode cc pc = .ok (.dup, 1)) (kk : jW F nL k1 k2 κ p1 lv (v :: v :: st)) : jW F nL k1 k2 κ pc lv (v :: st) := by
  obtain ⟨p, l, e, R, s, m, args, below, meth, c, G, sh, Qr, Qx, mc, ms, Q⟩ := F; subst hp; exact j_dup C.1 hv hd kk
theorem r_dup2 (C : jA F own cc nL fr mc ms lo) {v w : Value} (hv : v.category = 1) (hw : w.category = 1) (p1 : Nat) (hp : pc + 1 = p1) (hd : decode cc pc = .ok (.dup2, 1)) (kk : jW F nL k1 k2 κ p1 lv (v :: w :: v :: w :: st)) : jW F nL k1 k2 κ pc lv (v :: w :: st) := by
  obtain ⟨p, l, e, R, s, m, args, below, meth, c, G, sh, Qr, Qx, mc, ms, Q⟩ := F; subst hp; exact j_dup2 C.1 hv hw hd kk
theorem r_pop (C : jA F own cc nL fr mc ms lo) {v : Value} (hv : v.category = 1) (p1 : Nat) (hp : pc + 1 = p1) (hd : decode cc pc = .ok (.pop, 1)) (kk : jW F nL k1 k2 κ p1 lv st) : jW F nL k1 k2 κ pc lv (v :: st) := by
  obtain ⟨p, l, e, R, s, m, args, below, meth, c, G, sh, Qr, Qx, mc, ms, Q⟩ := F; subst hp; exact j_pop C.1 hv hd kk
theorem r_goto (C : jA F own cc nL fr mc ms lo) {off : Int} (tgt : Nat) (hd : decode cc pc = .ok (.goto off, 3)) (ht : (pc : Int) + off = (tgt : Int)) (kk : jW F nL k1 k2 κ tgt lv st) : jW F nL k1 k2 κ pc lv st := by
  obtain ⟨p, l, e, R, s, m, args, below, meth, c, G, sh, Qr, Qx, mc, ms, Q⟩ := F; exact j_goto C.1 tgt hd ht kk
theorem r_if_eq (C : jA F own cc nL fr mc ms lo) {x : Int32} {off : Int} (tgt : Nat) (p1 : Nat) (hp : pc + 3 = p1) (hd : decode cc pc = .ok (.ifCond .eq off, 3)) (ht : (pc : Int) + off = (tgt : Int)) (kk : (x = 0 → jW F nL k1 k2 κ tgt lv st) ∧ (¬ x = 0 → jW F nL k1 k2 κ p1 lv st)) : jW F nL k1 k2 κ pc lv (.int x :: st) := by
  obtain ⟨p, l, e, R, s, m, args, below, meth, c, G, sh, Qr, Qx, mc, ms, Q⟩ := F; subst hp; exact j_if_eq C.1 tgt hd ht kk
theorem r_if_ne (C : jA F own cc nL fr mc ms lo) {x : Int32} {off : Int} (tgt : Nat) (p1 : Nat) (hp : pc + 3 = p1) (hd : decode cc pc = .ok (.ifCond .ne off, 3)) (ht : (pc : Int) + off = (tgt : Int)) (kk : (¬ x = 0 → jW F nL k1 k2 κ tgt lv st) ∧ (x = 0 → jW F nL k1 k2 κ p1 lv st)) : jW F nL k1 k2 κ pc lv (.int x :: st) := by
  obtain ⟨p, l, e, R, s, m, args, below, meth, c, G, sh, Qr, Qx, mc, ms, Q⟩ := F; subst hp; exact j_if_ne C.1 tgt hd ht kk
theorem r_if_lt (C : jA F own cc nL fr mc ms lo) {x : Int32} {off : Int} (tgt : Nat) (p1 : Nat) (hp : pc + 3 = p1) (hd : decode cc pc = .ok (.ifCond .lt off, 3)) (ht : (pc : Int) + off = (tgt : Int)) (kk : (x < 0 → jW F nL k1 k2 κ tgt lv st) ∧ (¬ x < 0 → jW F nL k1 k2 κ p1 lv st)) : jW F nL k1 k2 κ pc lv (.int x :: st) := by
  obtain ⟨p, l, e, R, s, m, args, below, meth, c, G, sh, Qr, Qx, mc, ms, Q⟩ := F; subst hp; exact j_if_lt C.1 tgt hd ht kk
theorem r_if_ge (C : jA F own cc nL fr mc ms lo) {x : Int32} {off : Int} (tgt : Nat) (p1 : Nat) (hp : pc + 3 = p1) (hd : decode cc pc = .ok (.ifCond .ge off, 3)) (ht : (pc : Int) + off = (tgt : Int)) (kk : (0 ≤ x → jW F nL k1 k2 κ tgt lv st) ∧ (¬ 0 ≤ x → jW F nL k1 k2 κ p1 lv st)) : jW F nL k1 k2 κ pc lv (.int x :: st) := by
  obtain ⟨p, l, e, R, s, m, args, below, meth, c, G, sh, Qr, Qx, mc, ms, Q⟩ := F; subst hp; exact j_if_ge C.1 tgt hd ht kk
theorem r_if_le (C : jA F own cc nL fr mc ms lo) {x : Int32} {off : Int} (tgt : Nat) (p1 : Nat) (hp : pc + 3 = p1) (hd : decode cc pc = .ok (.ifCond .le off, 3)) (ht : (pc : Int) + off = (tgt : Int)) (kk : (x ≤ 0 → jW F nL k1 k2 κ tgt lv st) ∧ (¬ x ≤ 0 → jW F nL k1 k2 κ p1 lv st)) : jW F nL k1 k2 κ pc lv (.int x :: st) := by
  obtain ⟨p, l, e, R, s, m, args, below, meth, c, G, sh, Qr, Qx, mc, ms, Q⟩ := F; subst hp; exact j_if_le C.1 tgt hd ht kk
theorem r_icmp_eq (C : jA F own cc nL fr mc ms lo) {x y : Int32} {off : Int} (tgt : Nat) (p1 : Nat) (hp : pc + 3 = p1) (hd : decode cc pc = .ok (.if_icmp .eq off, 3)) (ht : (pc : Int) + off = (tgt : Int)) (kk : (x = y → jW F nL k1 k2 κ tgt lv st) ∧ (¬ x = y → jW F nL k1 k2 κ p1 lv st)) : jW F nL k1 k2 κ pc lv (.int y :: .int x :: st) := by
  obtain ⟨p, l, e, R, s, m, args, below, meth, c, G, sh, Qr, Qx, mc, ms, Q⟩ := F; subst hp; exact j_icmp_eq C.1 tgt hd ht kk
theorem r_icmp_ne (C : jA F own cc nL fr mc ms lo) {x y : Int32} {off : Int} (tgt : Nat) (p1 : Nat) (hp : pc + 3 = p1) (hd : decode cc pc = .ok (.if_icmp .ne off, 3)) (ht : (pc : Int) + off = (tgt : Int)) (kk : (¬ x = y → jW F nL k1 k2 κ tgt lv st) ∧ (x = y → jW F nL k1 k2 κ p1 lv st)) : jW F nL k1 k2 κ pc lv (.int y :: .int x :: st) := by
  obtain ⟨p, l, e, R, s, m, args, below, meth, c, G, sh, Qr, Qx, mc, ms, Q⟩ := F; subst hp; exact j_icmp_ne C.1 tgt hd ht kk
theorem r_icmp_lt (C : jA F own cc nL fr mc ms lo) {x y : Int32} {off : Int} (tgt : Nat) (p1 : Nat) (hp : pc + 3 = p1) (hd : decode cc pc = .ok (.if_icmp .lt off, 3)) (ht : (pc : Int) + off = (tgt : Int)) (kk : (x < y → jW F nL k1 k2 κ tgt lv st) ∧ (¬ x < y → jW F nL k1 k2 κ p1 lv st)) : jW F nL k1 k2 κ pc lv (.int y :: .int x :: st) := by
  obtain ⟨p, l, e, R, s, m, args, below, meth, c, G, sh, Qr, Qx, mc, ms, Q⟩ := F; subst hp; exact j_icmp_lt C.1 tgt hd ht kk
theorem r_icmp_ge (C : jA F own cc nL fr mc ms lo) {x y : Int32} {off : Int} (tgt : Nat) (p1 : Nat) (hp : pc + 3 = p1) (hd : decode cc pc = .ok (.if_icmp .ge off, 3)) (ht : (pc : Int) + off = (tgt : Int)) (kk : (y ≤ x → jW F nL k1 k2 κ tgt lv st) ∧ (¬ y ≤ x → jW F nL k1 k2 κ p1 lv st)) : jW F nL k1 k2 κ pc lv (.int y :: .int x :: st) := by
  obtain ⟨p, l, e, R, s, m, args, below, meth, c, G, sh, Qr, Qx, mc, ms, Q⟩ := F; subst hp; exact j_icmp_ge C.1 tgt hd ht kk
theorem r_icmp_gt (C : jA F own cc nL fr mc ms lo) {x y : Int32} {off : Int} (tgt : Nat) (p1 : Nat) (hp : pc + 3 = p1) (hd : decode cc pc = .ok (.if_icmp .gt off, 3)) (ht : (pc : Int) + off = (tgt : Int)) (kk : (y < x → jW F nL k1 k2 κ tgt lv st) ∧ (¬ y < x → jW F nL k1 k2 κ p1 lv st)) : jW F nL k1 k2 κ pc lv (.int y :: .int x :: st) := by
  obtain ⟨p, l, e, R, s, m, args, below, meth, c, G, sh, Qr, Qx, mc, ms, Q⟩ := F; subst hp; exact j_icmp_gt C.1 tgt hd ht kk
theorem r_icmp_le (C : jA F own cc nL fr mc ms lo) {x y : Int32} {off : Int} (tgt : Nat) (p1 : Nat) (hp : pc + 3 = p1) (hd : decode cc pc = .ok (.if_icmp .le off, 3)) (ht : (pc : Int) + off = (tgt : Int)) (kk : (x ≤ y → jW F nL k1 k2 κ tgt lv st) ∧ (¬ x ≤ y → jW F nL k1 k2 κ p1 lv st)) : jW F nL k1 k2 κ pc lv (.int y :: .int x :: st) := by
  obtain ⟨p, l, e, R, s, m, args, below, meth, c, G, sh, Qr, Qx, mc, ms, Q⟩ := F; subst hp; exact j_icmp_le C.1 tgt hd ht kk
theorem r_ifnonnull (C : jA F own cc nL fr mc ms lo) {x : Nat} {off : Int} (tgt : Nat) (hd : decode cc pc = .ok (.ifnonnull off, 3)) (ht : (pc : Int) + off = (tgt : Int)) (kk : jW F nL k1 k2 κ tgt lv st) : jW F nL k1 k2 κ pc lv (.ref x :: st) := by
  obtain ⟨p, l, e, R, s, m, args, below, meth, c, G, sh, Qr, Qx, mc, ms, Q⟩ := F; exact j_ifnonnull C.1 tgt hd ht kk
theorem r_ifnonnullN (C : jA F own cc nL fr mc ms lo) {off : Int} (p1 : Nat) (hp : pc + 3 = p1) (hd : decode cc pc = .ok (.ifnonnull off, 3)) (kk : jW F nL k1 k2 κ p1 lv st) : jW F nL k1 k2 κ pc lv (.null :: st) := by
  obtain ⟨p, l, e, R, s, m, args, below, meth, c, G, sh, Qr, Qx, mc, ms, Q⟩ := F; subst hp; exact j_ifnonnullN C.1 hd kk
theorem r_tableIn (C : jA F own cc nL fr mc ms lo) {dflt a b : Int} {offs : Array Int} {len : Nat} {x : Int32} {off : Int} (tgt : Nat) (hd : decode cc pc = .ok (.tableswitch dflt a b offs, len)) (h1 : ¬ x.toInt < a) (h2 : ¬ b < x.toInt) (ho : offs[(x.toInt - a).toNat]? = some off) (ht : (pc : Int) + off = (tgt : Int)) (kk : jW F nL k1 k2 κ tgt lv st) : jW F nL k1 k2 κ pc lv (.int x :: st) := by
  obtain ⟨p, l, e, R, s, m, args, below, meth, c, G, sh, Qr, Qx, mc, ms, Q⟩ := F; exact j_tableIn C.1 tgt hd h1 h2 ho ht kk
theorem r_tableOut (C : jA F own cc nL fr mc ms lo) {dflt a b : Int} {offs : Array Int} {len : Nat} {x : Int32} (tgt : Nat) (hd : decode cc pc = .ok (.tableswitch dflt a b offs, len)) (h : x.toInt < a ∨ b < x.toInt) (ht : (pc : Int) + dflt = (tgt : Int)) (kk : jW F nL k1 k2 κ tgt lv st) : jW F nL k1 k2 κ pc lv (.int x :: st) := by
  obtain ⟨p, l, e, R, s, m, args, below, meth, c, G, sh, Qr, Qx, mc, ms, Q⟩ := F; exact j_tableOut C.1 tgt hd h ht kk
theorem r_ldc (C : jA F own cc nL fr mc ms lo) {index : Nat} {v : Int32} (hw : Cond.constant own index v ∈ TB) (p1 : Nat) (hp : pc + 2 = p1) (hd : decode cc pc = .ok (.ldc index, 2)) (kk : jW F nL k1 k2 κ p1 lv (.int v :: st)) : jW F nL k1 k2 κ pc lv st := by
  obtain ⟨p, l, e, R, s, m, args, below, meth, c, G, sh, Qr, Qx, mc, ms, Q⟩ := F; subst hp; exact j_ldc C.1 hw hd kk
theorem r_getI (C : jA F own cc nL fr mc ms lo) {index i N a : Nat} (k : Nat) (hf : jFld own index i N k) (he : (j_fT i k).1 = 0) (ha : jSof F a = (1, i, N)) (p1 : Nat) (hp : pc + 3 = p1) (hd : decode cc pc = .ok (.getfield index, 3)) (kk : jW F nL k1 k2 κ p1 lv (.int (kI κ a k) :: st)) : jW F nL k1 k2 κ pc lv (.ref a :: st) := by
  obtain ⟨p, l, e, R, s, m, args, below, meth, c, G, sh, Qr, Qx, mc, ms, Q⟩ := F
  subst hp
  obtain ⟨C1, T, hc, hin, hk, h | ⟨host, h⟩⟩ := hf
  · exact j_getI C.1 k hc hin hk h he ha hd kk
  · exact j_getIN C.1 k hc hin hk h he ha hd kk
theorem r_getR (C : jA F own cc nL fr mc ms lo) {index i N a : Nat} (k : Nat) (hf : jFld own index i N k) (he : jIsR (j_fT i k) = true) (ha : jSof F a = (1, i, N)) (p1 : Nat) (hp : pc + 3 = p1) (hd : decode cc pc = .ok (.getfield index, 3)) (kk : jSof F (kR κ a k) = j_fT i k → jW F nL k1 k2 κ p1 lv (.ref (kR κ a k) :: st)) : jW F nL k1 k2 κ pc lv (.ref a :: st) := by
  obtain ⟨p, l, e, R, s, m, args, below, meth, c, G, sh, Qr, Qx, mc, ms, Q⟩ := F
  subst hp
  obtain ⟨C1, T, hc, hin, hk, h | ⟨host, h⟩⟩ := hf
  · exact j_getR C.1 k hc hin hk h he ha hd kk
  · exact j_getRN C.1 k hc hin hk h he ha hd kk
theorem r_put (C : jA F own cc nL fr mc ms lo) {index i N a : Nat} {ft : FieldType} {v : Value} {κ' : jKt} (k : Nat) (hf : jFlw own index i N k ft) (hn : narrow ft v = v) (hfit : fits ft v = true) (ha : jSof F a = (1, i, N)) (hok : j_ok (jSof F) (j_fT i k) v) (hκ : κ' = kU κ a k v) (p1 : Nat) (hp : pc + 3 = p1) (hd : decode cc pc = .ok (.putfield index, 3)) (kk : jW F nL k1 k2 κ' p1 lv st) : jW F nL k1 k2 κ pc lv (v :: .ref a :: st) := by
  obtain ⟨p, l, e, R, s, m, args, below, meth, c, G, sh, Qr, Qx, mc, ms, Q⟩ := F
  subst hκ hp
  obtain ⟨C1, T, ty0, hc, hin, hty, hnm, hk, hfin, rfl, h | ⟨host, h⟩⟩ := hf
  · exact j_putV C.1 k hc hin hty hnm hk h hfin hn hfit ⟨Or.inl (by show (sh a).1 = 1; rw [show sh a = (1, i, N) from ha]), by show (sh a).2.1 = i; rw [show sh a = (1, i, N) from ha]⟩ (fun _ => hok) hd kk
  · exact j_putVN C.1 k hc hin hty hnm hk h hfin hn hfit ⟨Or.inl (by show (sh a).1 = 1; rw [show sh a = (1, i, N) from ha]), by show (sh a).2.1 = i; rw [show sh a = (1, i, N) from ha]⟩ (fun _ => hok) hd kk
theorem r_putI (C : jA F own cc nL fr mc ms lo) {index i N a : Nat} {x : Int32} {ft : FieldType} {κ' : jKt} (k : Nat) (hf : jFlw own index i N k ft) (hn : narrow ft (.int x) = .int x) (hfit : fits ft (.int x) = true) (he : (j_fT i k).1 = 0) (ha : jSof F a = (1, i, N)) (hκ : κ' = kU κ a k (.int x)) (p1 : Nat) (hp : pc + 3 = p1) (hd : decode cc pc = .ok (.putfield index, 3)) (kk : jW F nL k1 k2 κ' p1 lv st) : jW F nL k1 k2 κ pc lv (.int x :: .ref a :: st) :=
  r_put C k hf hn hfit ha (by unfold j_ok; rw [if_pos he]; exact ⟨x, rfl⟩) hκ p1 hp hd kk
theorem r_putR (C : jA F own cc nL fr mc ms lo) {index i N a b : Nat} {ft : FieldType} {κ' : jKt} (k : Nat) (hf : jFlw own index i N k ft) (hn : narrow ft (.ref b) = .ref b) (hfit : fits ft (.ref b) = true) (he : jIsR (j_fT i k) = true) (hb : jSof F b = j_fT i k) (ha : jSof F a = (1, i, N)) (hκ : κ' = kU κ a k (.ref b)) (p1 : Nat) (hp : pc + 3 = p1) (hd : decode cc pc = .ok (.putfield index, 3)) (kk : jW F nL k1 k2 κ' p1 lv st) : jW F nL k1 k2 κ pc lv (.ref b :: .ref a :: st) :=
  r_put C k hf hn hfit ha (j_okR he hb) hκ p1 hp hd kk
theorem r_iald (C : jA F own cc nL fr mc ms lo) {a n : Nat} {i : Int32} (ha : jSof F a = (2, 0, n)) (hin : jin i n) (p1 : Nat) (hp : pc + 1 = p1) (hd : decode cc pc = .ok (.iaload, 1)) (kk : jW F nL k1 k2 κ p1 lv (.int (kI κ a (ix i)) :: st)) : jW F nL k1 k2 κ pc lv (.int i :: .ref a :: st) := by
  obtain ⟨p, l, e, R, s, m, args, below, meth, c, G, sh, Qr, Qx, mc, ms, Q⟩ := F; subst hp; exact j_iald C.1 ha hin hd kk
theorem r_cald (C : jA F own cc nL fr mc ms lo) {a n : Nat} {i : Int32} (ha : jSof F a = (2, 1, n)) (hin : jin i n) (p1 : Nat) (hp : pc + 1 = p1) (hd : decode cc pc = .ok (.caload, 1)) (kk : jW F nL k1 k2 κ p1 lv (.int (kI κ a (ix i)) :: st)) : jW F nL k1 k2 κ pc lv (.int i :: .ref a :: st) := by
  obtain ⟨p, l, e, R, s, m, args, below, meth, c, G, sh, Qr, Qx, mc, ms, Q⟩ := F; subst hp; exact j_cald C.1 ha hin hd kk
theorem r_aald (C : jA F own cc nL fr mc ms lo) {a t n : Nat} {C1 : String} {i : Int32} (hty : j_aty t = .object C1) (he : jIsR (j_eT t) = true) (ha : jSof F a = (2, t, n)) (hin : jin i n) (p1 : Nat) (hp : pc + 1 = p1) (hd : decode cc pc = .ok (.aaload, 1)) (kk : jSof F (kR κ a (ix i)) = j_eT t → jW F nL k1 k2 κ p1 lv (.ref (kR κ a (ix i)) :: st)) : jW F nL k1 k2 κ pc lv (.int i :: .ref a :: st) := by
  obtain ⟨p, l, e, R, s, m, args, below, meth, c, G, sh, Qr, Qx, mc, ms, Q⟩ := F; subst hp; exact j_aald C.1 hty he ha hin hd kk
theorem r_alen (C : jA F own cc nL fr mc ms lo) {a t n : Nat} (ha : jSof F a = (2, t, n)) (p1 : Nat) (hp : pc + 1 = p1) (hd : decode cc pc = .ok (.arraylength, 1)) (kk : jW F nL k1 k2 κ p1 lv (.int (Int32.ofNat n) :: st)) : jW F nL k1 k2 κ pc lv (.ref a :: st) := by
  obtain ⟨p, l, e, R, s, m, args, below, meth, c, G, sh, Qr, Qx, mc, ms, Q⟩ := F; subst hp; exact j_alen C.1 ha hd kk
theorem r_iast (C : jA F own cc nL fr mc ms lo) {a n : Nat} {i x : Int32} {κ' : jKt} (ha : jSof F a = (2, 0, n)) (hin : jin i n) (hκ : κ' = kU κ a (ix i) (.int x)) (p1 : Nat) (hp : pc + 1 = p1) (hd : decode cc pc = .ok (.iastore, 1)) (kk : jW F nL k1 k2 κ' p1 lv st) : jW F nL k1 k2 κ pc lv (.int x :: .int i :: .ref a :: st) := by
  obtain ⟨p, l, e, R, s, m, args, below, meth, c, G, sh, Qr, Qx, mc, ms, Q⟩ := F; subst hκ hp; exact j_iast C.1 ha hin hd kk
theorem r_cast (C : jA F own cc nL fr mc ms lo) {a n : Nat} {i x : Int32} {κ' : jKt} (ha : jSof F a = (2, 1, n)) (hin : jin i n) (hx : jch x) (hκ : κ' = kU κ a (ix i) (.int x)) (p1 : Nat) (hp : pc + 1 = p1) (hd : decode cc pc = .ok (.castore, 1)) (kk : jW F nL k1 k2 κ' p1 lv st) : jW F nL k1 k2 κ pc lv (.int x :: .int i :: .ref a :: st) := by
  obtain ⟨p, l, e, R, s, m, args, below, meth, c, G, sh, Qr, Qx, mc, ms, Q⟩ := F; subst hκ hp; exact j_cast C.1 ha hin (jch_narrow hx) hd kk
theorem r_zret (C : jB F own cc nL ret fr mc ms lo) {x : Int32} {ty : FieldType} (hr : ret = some ty) (hn : narrow ty (.int x) = .int x) (h1 : k1 ≤ mc) (h2 : k2 ≤ ms) (hd : decode cc pc = .ok (.ireturn, 1)) (hq : jOut F (some (.int x)) κ) : jW F nL k1 k2 κ pc lv [.int x] := by
  obtain ⟨p, l, e, R, s, m, args, below, meth, c, G, sh, Qr, Qx, mc, ms, Q⟩ := F
  obtain ⟨⟨C1, C4⟩, C2, C3, C5, C6, C7⟩ := C
  subst C5 C6 C7
  exact j_zret C1 (C2.trans hr) hn h1 h2 hd hq
theorem r_vret (C : jB F own cc nL ret fr mc ms lo) (hr : ret = none) (h1 : k1 ≤ mc) (h2 : k2 ≤ ms) (hd : decode cc pc = .ok (.return_, 1)) (hq : jOut F none κ) : jW F nL k1 k2 κ pc lv [] := by
  obtain ⟨p, l, e, R, s, m, args, below, meth, c, G, sh, Qr, Qx, mc, ms, Q⟩ := F
  obtain ⟨⟨C1, C4⟩, C2, C3, C5, C6, C7⟩ := C
  subst C5 C6 C7
  exact j_vret C1 (C2.trans hr) h1 h2 hd hq
theorem r_aret (C : jB F own cc nL ret fr mc ms lo) {v : Value} {ty : FieldType} (hr : ret = some ty) (hty : (∃ n, ty = .object n) ∨ ∃ t, ty = .array t) (hv : v = .null ∨ ∃ a, v = .ref a) (h1 : k1 ≤ mc) (h2 : k2 ≤ ms) (hd : decode cc pc = .ok (.areturn, 1)) (hq : jOut F (some v) κ) : jW F nL k1 k2 κ pc lv [v] := by
  obtain ⟨p, l, e, R, s, m, args, below, meth, c, G, sh, Qr, Qx, mc, ms, Q⟩ := F
  obtain ⟨⟨C1, C4⟩, C2, C3, C5, C6, C7⟩ := C
  subst C5 C6 C7
  exact j_aret C1 (C2.trans hr) hty hv h1 h2 hd hq
theorem r_out (C : jB F own cc nL ret fr mc ms lo) {E : String} (h1 : k1 ≤ mc) (h2 : k2 ≤ ms) (hq : jThr F E κ) : jWx F nL k1 k2 E κ pc lv st := by
  obtain ⟨p, l, e, R, s, m, args, below, meth, c, G, sh, Qr, Qx, mc, ms, Q⟩ := F
  obtain ⟨⟨C1, C4⟩, C2, C3, C5, C6, C7⟩ := C
  subst C5 C6 C7
  exact j_out C1 C3 h1 h2 hq
theorem r_callV (C : jA F own cc nL fr mc ms lo) {n b i index nY fr1 mc1 ms1 lo1 : Nat} {T : u_T} {N : Nat} {y : MethodName} {by0 : ByteArray} {rt : Option FieldType} {As st0 : List Value} {Qr : Option Value → jH → Prop} {Qx : String → jH → Prop}
    (hM : jM (jLof F) (jGof F) y by0 nY rt fr1 mc1 ms1 lo1 (.ref b :: As) (jSof F, κ) Qr Qx) (hY : jYV y by0 nY rt n) (hlink : Cond.methodLink own index y ∈ TB) (hc : vwCl[i]? = some (y.cls, T, N)) (hb : jSof F b = (1, i, N)) (hn : As.length = n) (hR : fr1 + 1 ≤ fr ∧ 8 + (nY + 11) + lo1 ≤ lo) (hf : k1 + mc1 ≤ mc ∧ k2 + ms1 ≤ ms) (hW : (st.map fun v => v.category).sum ≤ 8) (hst : st0 = As.reverse ++ .ref b :: st) (p1 : Nat) (hp : pc + 3 = p1) (hd : decode cc pc = .ok (.invokevirtual index, 3))
    (kk : ∀ (r : Option Value) (σ' : jH), Qr r σ' → ∃ κ', σ' = (jSof F, κ') ∧ jW F nL (k1 + mc1) (k2 + ms1) κ' p1 lv (r.toList ++ st))
    (kx : ∀ (E : String) (σ' : jH), Qx E σ' → ∃ κ', σ' = (jSof F, κ') ∧ jWx F nL (k1 + mc1) (k2 + ms1) E κ' pc lv st) : jW F nL k1 k2 κ pc lv st0 := by
  obtain ⟨p, l, e, R, s, m, args, below, meth, c, G, sh, Qr, Qx, mc, ms, Q⟩ := F
  obtain ⟨C1, C4⟩ := C
  subst C4 hp
  refine j_callV C1 hM hY hlink hc hb hn hR hf hW hst hd (fun r σ' h => ?_) (fun E σ' h => ?_)
  · obtain ⟨κ', rfl, k⟩ := kk r σ' h
    exact k
  · obtain ⟨κ', rfl, k⟩ := kx E σ' h
    exact k
theorem r_callS (C : jA F own cc nL fr mc ms lo) {n index nY fr1 mc1 ms1 lo1 : Nat} {y : MethodName} {by0 : ByteArray} {rt : Option FieldType} {As st0 : List Value} {Qr : Option Value → jH → Prop} {Qx : String → jH → Prop}
    (hM : jM (jLof F) (jGof F) y by0 nY rt fr1 mc1 ms1 lo1 As (jSof F, κ) Qr Qx) (hY : jYS y by0 nY rt n) (hlink : Cond.methodLink own index y ∈ TB) (hn : As.length = n) (hR : fr1 + 1 ≤ fr ∧ 8 + (nY + 11) + lo1 ≤ lo) (hf : k1 + mc1 ≤ mc ∧ k2 + ms1 ≤ ms) (hW : (st.map fun v => v.category).sum ≤ 8) (hst : st0 = As.reverse ++ st) (p1 : Nat) (hp : pc + 3 = p1) (hd : decode cc pc = .ok (.invokestatic index, 3))
    (kk : ∀ (r : Option Value) (σ' : jH), Qr r σ' → ∃ κ', σ' = (jSof F, κ') ∧ jW F nL (k1 + mc1) (k2 + ms1) κ' p1 lv (r.toList ++ st))
    (kx : ∀ (E : String) (σ' : jH), Qx E σ' → ∃ κ', σ' = (jSof F, κ') ∧ jWx F nL (k1 + mc1) (k2 + ms1) E κ' pc lv st) : jW F nL k1 k2 κ pc lv st0 := by
  obtain ⟨p, l, e, R, s, m, args, below, meth, c, G, sh, Qr, Qx, mc, ms, Q⟩ := F
  obtain ⟨C1, C4⟩ := C
  subst C4 hp
  refine j_callS C1 hM hY hlink hn hR hf hW hst hd (fun r σ' h => ?_) (fun E σ' h => ?_)
  · obtain ⟨κ', rfl, k⟩ := kk r σ' h
    exact k
  · obtain ⟨κ', rfl, k⟩ := kx E σ' h
    exact k
/-- a body gives a contract: the end that the pure method tells -/
theorem r_body {l : Launch} {G : jG} {y : MethodName} {by0 : ByteArray} {nY : Nat} {rt : Option FieldType} {av : List Value} {sh : jSh} {Qr : Option Value → jH → Prop} {Qx : String → jH → Prop} (hy : plainName y.cls = true) (hn : (lg_sl av).length ≤ nY)
    (body : ∀ F : jFm, jB F y.cls by0 nY rt fr mc ms lo → jLof F = l → jGof F = G → jSof F = sh → (∀ r κ', jOut F r κ' = Qr r (sh, κ')) → (∀ E κ', jThr F E κ' = Qx E (sh, κ')) → jW F nY 0 0 κ 0 (lv_args 0 av) []) : jM l G y by0 nY rt fr mc ms lo av (sh, κ) Qr Qx := by
  refine jM_of hy (fun p e s m args below meth c hC hr hex _ => ?_) hn
  exact body (p, l, e, jrm fr mc ms lo, s, m, args, below, meth, c, G, sh, Qr, Qx, mc, ms, jEnd below G Qr Qx args s mc ms) ⟨⟨hC, rfl⟩, hr, hex, rfl, rfl, rfl⟩ rfl rfl rfl (fun _ _ => rfl) (fun _ _ => rfl)
/-- a callee that returns rv and leaves κ' -/
theorem r_cV (C : jA F own cc nL fr mc ms lo) {n b i index nY fr1 mc1 ms1 lo1 : Nat} {T : u_T} {N : Nat} {y : MethodName} {by0 : ByteArray} {rt : Option FieldType} {As st0 : List Value} {rv : Option Value} {κ' : jKt}
    (hM : jM (jLof F) (jGof F) y by0 nY rt fr1 mc1 ms1 lo1 (.ref b :: As) (jSof F, κ) (jIs rv (jSof F, κ')) jNo) (hY : jYV y by0 nY rt n) (hlink : Cond.methodLink own index y ∈ TB) (hc : vwCl[i]? = some (y.cls, T, N)) (hb : jSof F b = (1, i, N)) (hn : As.length = n) (hR : fr1 + 1 ≤ fr ∧ 8 + (nY + 11) + lo1 ≤ lo) (hf : k1 + mc1 ≤ mc ∧ k2 + ms1 ≤ ms) (hW : (st.map fun v => v.category).sum ≤ 8) (hst : st0 = As.reverse ++ .ref b :: st) (p1 : Nat) (hp : pc + 3 = p1) (hd : decode cc pc = .ok (.invokevirtual index, 3))
    (kk : jW F nL (k1 + mc1) (k2 + ms1) κ' p1 lv (rv.toList ++ st)) : jW F nL k1 k2 κ pc lv st0 :=
  r_callV C hM hY hlink hc hb hn hR hf hW hst p1 hp hd (fun r σ' h => ⟨κ', h.2, by rw [h.1]; exact kk⟩) (fun _ _ h => h.elim)
theorem r_cS (C : jA F own cc nL fr mc ms lo) {n index nY fr1 mc1 ms1 lo1 : Nat} {y : MethodName} {by0 : ByteArray} {rt : Option FieldType} {As st0 : List Value} {rv : Option Value} {κ' : jKt}
    (hM : jM (jLof F) (jGof F) y by0 nY rt fr1 mc1 ms1 lo1 As (jSof F, κ) (jIs rv (jSof F, κ')) jNo) (hY : jYS y by0 nY rt n) (hlink : Cond.methodLink own index y ∈ TB) (hn : As.length = n) (hR : fr1 + 1 ≤ fr ∧ 8 + (nY + 11) + lo1 ≤ lo) (hf : k1 + mc1 ≤ mc ∧ k2 + ms1 ≤ ms) (hW : (st.map fun v => v.category).sum ≤ 8) (hst : st0 = As.reverse ++ st) (p1 : Nat) (hp : pc + 3 = p1) (hd : decode cc pc = .ok (.invokestatic index, 3))
    (kk : jW F nL (k1 + mc1) (k2 + ms1) κ' p1 lv (rv.toList ++ st)) : jW F nL k1 k2 κ pc lv st0 :=
  r_callS C hM hY hlink hn hR hf hW hst p1 hp hd (fun r σ' h => ⟨κ', h.2, by rw [h.1]; exact kk⟩) (fun _ _ h => h.elim)
/-- a callee that throws E and leaves κ' -/
theorem r_xV (C : jA F own cc nL fr mc ms lo) {n b i index nY fr1 mc1 ms1 lo1 : Nat} {T : u_T} {N : Nat} {y : MethodName} {by0 : ByteArray} {rt : Option FieldType} {As st0 : List Value} {E : String} {κ' : jKt}
    (hM : jM (jLof F) (jGof F) y by0 nY rt fr1 mc1 ms1 lo1 (.ref b :: As) (jSof F, κ) (fun _ _ => False) (jXs E (jSof F, κ'))) (hY : jYV y by0 nY rt n) (hlink : Cond.methodLink own index y ∈ TB) (hc : vwCl[i]? = some (y.cls, T, N)) (hb : jSof F b = (1, i, N)) (hn : As.length = n) (hR : fr1 + 1 ≤ fr ∧ 8 + (nY + 11) + lo1 ≤ lo) (hf : k1 + mc1 ≤ mc ∧ k2 + ms1 ≤ ms) (hW : (st.map fun v => v.category).sum ≤ 8) (hst : st0 = As.reverse ++ .ref b :: st) (hd : decode cc pc = .ok (.invokevirtual index, 3))
    (kx : jWx F nL (k1 + mc1) (k2 + ms1) E κ' pc lv st) : jW F nL k1 k2 κ pc lv st0 :=
  r_callV C hM hY hlink hc hb hn hR hf hW hst _ rfl hd (fun _ _ h => h.elim) (fun r σ' h => ⟨κ', h.2, by rw [h.1]; exact kx⟩)
theorem r_xS (C : jA F own cc nL fr mc ms lo) {n index nY fr1 mc1 ms1 lo1 : Nat} {y : MethodName} {by0 : ByteArray} {rt : Option FieldType} {As st0 : List Value} {E : String} {κ' : jKt}
    (hM : jM (jLof F) (jGof F) y by0 nY rt fr1 mc1 ms1 lo1 As (jSof F, κ) (fun _ _ => False) (jXs E (jSof F, κ'))) (hY : jYS y by0 nY rt n) (hlink : Cond.methodLink own index y ∈ TB) (hn : As.length = n) (hR : fr1 + 1 ≤ fr ∧ 8 + (nY + 11) + lo1 ≤ lo) (hf : k1 + mc1 ≤ mc ∧ k2 + ms1 ≤ ms) (hW : (st.map fun v => v.category).sum ≤ 8) (hst : st0 = As.reverse ++ st) (hd : decode cc pc = .ok (.invokestatic index, 3))
    (kx : jWx F nL (k1 + mc1) (k2 + ms1) E κ' pc lv st) : jW F nL k1 k2 κ pc lv st0 :=
  r_callS C hM hY hlink hn hR hf hW hst _ rfl hd (fun _ _ h => h.elim) (fun r σ' h => ⟨κ', h.2, by rw [h.1]; exact kx⟩)
end JW
