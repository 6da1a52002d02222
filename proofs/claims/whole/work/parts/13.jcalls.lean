/-! ===== contracts, calls, ends ===== -/
def jP (l : Launch) (G : jG) (av : List Value) (σ : jH) : Array Value → State → Prop := fun a U => a = av.toArray ∧ jR G U.heap σ ∧ va_K G.1 vwCl (jtys G) U ∧ jE l G U
def jQ (G : jG) (Qr : Option Value → jH → Prop) : Array Value → State → Outcome → State → Prop := fun _ _ o t => ∃ r σ', o = .returned r ∧ Qr r σ' ∧ jR G t.heap σ'
def jX (G : jG) (Qx : String → jH → Prop) : String → State → State → Prop := fun E _ t => ∃ σ', Qx E σ' ∧ jR G t.heap σ'
def jrm (fr mc ms lo : Nat) : Room := { frames := fr, cells := mc, slots := ms, locals := lo }
/-- a method's contract: from the arguments av and the pure heap σ it returns with Qr, or throws with Qx -/
def jM (l : Launch) (G : jG) (y : MethodName) (by0 : ByteArray) (nY : Nat) (ret : Option FieldType) (fr mc ms lo : Nat) (av : List Value) (σ : jH) (Qr : Option Value → jH → Prop) (Qx : String → jH → Prop) : Prop :=
  vx_Met l y (Cond.code y by0 nY ret :: TB) (jrm fr mc ms lo) (jP l G av σ) (jQ G Qr) (jX G Qx) mc ms (fun q => jbase G ≤ q)
def jEnd (below : List Frame) (G : jG) (Qr : Option Value → jH → Prop) (Qx : String → jH → Prop) (args : Array Value) (s : State) (mc ms : Nat) : State → Prop := vx_MQ below (jQ G Qr) (jX G Qx) args s mc ms (fun q => jbase G ≤ q)
def jNo : String → jH → Prop := fun _ _ => False
/-- the one end: the value r, the pure heap σ' -/
def jIs (r : Option Value) (σ' : jH) : Option Value → jH → Prop := fun r1 σ1 => r1 = r ∧ σ1 = σ'
theorem jP_blind {l : Launch} {G : jG} {av : List Value} {σ : jH} : FrameBlind (jP l G av σ) := fun a U g mk h => ⟨h.1, h.2.1, va_K.moved (Vm.Alike.refl U.vm) h.2.2.1, jE.same rfl h.2.2.2⟩
section JCALLS
variable {p : Program} {l : Launch} {e : Env} {R : Room} {s : State} {m : MethodId} {args : Array Value} {below : List Frame} {meth : Method} {c : Code} {Q : State → Prop} {G : jG} {own : String} {cc : ByteArray} {nL k1 k2 : Nat} {σ : jH} {pc : Nat} {lv lv' : List (Nat × Value)} {st st0 : List Value}
variable {y : MethodName} {by0 : ByteArray} {nY fr mc ms lo index : Nat} {ret : Option FieldType} {av As : List Value} {Qr : Option Value → jH → Prop} {Qx : String → jH → Prop}
def jdx (p : Program) (l : Launch) (e : Env) (R : Room) (s : State) (m : MethodId) (args : Array Value) (below : List Frame) (meth : Method) (c : Code) (G : jG) (nL : Nat) (Q : State → Prop) (k1 k2 : Nat) (E : String) (σ : jH) (pc : Nat) (lv : List (Nat × Value)) (st : List Value) : Prop :=
  ∀ (H : Heap) (locs : List Loc) (ls : Array Slot) (ce : Cell) (q : Addr), jR G H σ → (∀ z ∈ locs, jbase G ≤ z.base) → lv_has ls nL lv → H[q]? = some ce → ce.vm = .none → s.vm.findClass E = some ce.cls → vx_W p l e R s m args below meth c H locs k1 k2 Q (F0 m pc ls st) q
/-- a body gives a contract -/
theorem jM_of (hy : plainName y.cls = true) (body : ∀ (p : Program) (e : Env) (s : State) (m : MethodId) (args : Array Value) (below : List Frame) (meth : Method) (c : Code), jC p l s m args meth c G y.cls by0 nY → meth.sig.returnType = ret → (∀ x ∈ c.exceptionTable.toList, False) → meth.name = y.name →
      jd p l e (jrm fr mc ms lo) s m args below meth c G nY (jEnd below G Qr Qx args s mc ms) 0 0 σ 0 (lv_args 0 av) []) (hn : (lg_sl av).length ≤ nY) : jM l G y by0 nY ret fr mc ms lo av σ Qr Qx := by
  refine vx_ofW (cc := by0) (maxL := nY) (ret := ret) hy rfl ?_
  intro p e s m args below meth c s₁ B hml hex hv
  obtain ⟨rfl, hR, hK, hE⟩ := hv
  have hts := atoms_spec (ws := Cond.code y by0 nY ret :: TB) B.pre
  have hl := lv_entry av (n := nY) hn
  rw [lg_entry_eq]
  exact body p e s m _ below meth c ⟨⟨B.exec, B.bytes, hml, findClass_of_methodNamed B.named, fun w h => hts w (List.mem_cons_of_mem _ h)⟩, hK, B.notSynchronized, hE⟩ B.returns hex (name_of_methodNamed B.named B.method).1 s.heap [] _ hR (fun z hz => absurd hz List.not_mem_nil) hl
theorem j_zret (C : jC p l s m args meth c G own cc nL) {x : Int32} {ty : FieldType} (hr : meth.sig.returnType = some ty) (hn : narrow ty (.int x) = .int x) (h1 : k1 ≤ mc) (h2 : k2 ≤ ms) (hdg : decode cc pc = .ok (.ireturn, 1)) (hq : Qr (some (.int x)) σ) : jd p l e R s m args below meth c G nL (jEnd below G Qr Qx args s mc ms) k1 k2 σ pc lv [.int x] := by
  intro H locs ls hR hL hl
  refine W.widen h1 h2 (vx_ret ?_)
  exact W.zret C.1.1 C.1.2.1 hr hn (fun t ht hW => ⟨_, σ, rfl, hq, by rw [ht]; exact hR⟩) hL hdg C.2.2.1
theorem j_vret (C : jC p l s m args meth c G own cc nL) (hr : meth.sig.returnType = none) (h1 : k1 ≤ mc) (h2 : k2 ≤ ms) (hdg : decode cc pc = .ok (.return_, 1)) (hq : Qr none σ) : jd p l e R s m args below meth c G nL (jEnd below G Qr Qx args s mc ms) k1 k2 σ pc lv [] := by
  intro H locs ls hR hL hl
  refine W.widen h1 h2 (vx_ret ?_)
  exact W.vret C.1.1 C.1.2.1 hr (fun t ht hW => ⟨_, σ, rfl, hq, by rw [ht]; exact hR⟩) hL hdg C.2.2.1
theorem j_aret (C : jC p l s m args meth c G own cc nL) {v : Value} {ty : FieldType} (hr : meth.sig.returnType = some ty) (hty : (∃ n, ty = .object n) ∨ ∃ t, ty = .array t) (hv : v = .null ∨ ∃ a, v = .ref a) (h1 : k1 ≤ mc) (h2 : k2 ≤ ms) (hdg : decode cc pc = .ok (.areturn, 1)) (hq : Qr (some v) σ) : jd p l e R s m args below meth c G nL (jEnd below G Qr Qx args s mc ms) k1 k2 σ pc lv [v] := by
  intro H locs ls hR hL hl
  refine W.widen h1 h2 (vx_ret ?_)
  exact W.aret C.1.1 C.1.2.1 hr hty hv (fun t ht hW => ⟨_, σ, rfl, hq, by rw [ht]; exact hR⟩) hL hdg C.2.2.1
/-- thrown by a callee, and not caught here -/
theorem j_out (C : jC p l s m args meth c G own cc nL) {E : String} (hex : ∀ x ∈ c.exceptionTable.toList, False) (h1 : k1 ≤ mc) (h2 : k2 ≤ ms) (hq : Qx E σ) : jdx p l e R s m args below meth c G nL (jEnd below G Qr Qx args s mc ms) k1 k2 E σ pc lv st := by
  intro H locs ls ce q hR hL hl hc hv hf
  exact vx_out (fun x hx => (hex x hx).elim) C.2.2.1 hc hv hf (fun t ht _ => ⟨σ, hq, by rw [ht]; exact hR⟩) hL h1 h2
theorem j_run {a : Array Value} (hrun : ∀ (H : Heap) (locs : List Loc) (ls : Array Slot), jR G H σ → lv_has ls nL lv → vx_Run p l e R s m args below meth c H locs k1 k2 mc ms (F0 m pc ls st0) st (jQ G Qr a) (jX G Qx) (fun q => jbase G ≤ q))
    (kk : ∀ (r : Option Value) (σ' : jH), Qr r σ' → jd p l e R s m args below meth c G nL Q (k1 + mc) (k2 + ms) σ' (pc + 3) lv (r.toList ++ st))
    (kx : ∀ (E : String) (σ' : jH), Qx E σ' → jdx p l e R s m args below meth c G nL Q (k1 + mc) (k2 + ms) E σ' pc lv st) : jd p l e R s m args below meth c G nL Q k1 k2 σ pc lv st0 := by
  intro H locs ls hR hL hl T hT X
  rcases hrun H locs ls hR hl T hT X with ⟨v, s0, t, T', L, h0, X', hL', e1, e2, ⟨r, σ', hr, hq, hR'⟩, hst⟩ | ⟨q, s0, t, T', L, E, ce, h0, X', hL', e1, e2, ⟨σ', hq, hR'⟩, hce, hcv, hcl, hst⟩
  · cases hr
    obtain ⟨t2, a1, b1⟩ := kk v σ' hq T'.heap (locs ++ L) ls (by rw [e1]; exact hR') (fun z hz => (List.mem_append.mp hz).elim (hL z) (hL' z)) hl T' rfl X'
    exact ⟨t2, hst t2 a1, b1⟩
  · obtain ⟨t2, a1, b1⟩ := kx E σ' hq T'.heap (locs ++ L) ls ce q (by rw [e1]; exact hR') (fun z hz => (List.mem_append.mp hz).elim (hL z) (hL' z)) hl (by rw [e1]; exact hce) hcv hcl T' rfl X'
    exact ⟨t2, hst.trans a1, b1⟩
/-- what the tables say of a method that is called on an object; of a static one -/
def jYV (y : MethodName) (by0 : ByteArray) (nY : Nat) (ret : Option FieldType) (n : Nat) : Prop := Cond.instanceMethod y ∈ TB ∧ Cond.selects y.cls y y ∈ TB ∧ Cond.initialized y.cls ∈ TB ∧ Cond.code y by0 nY ret ∈ TB ∧ (y.cls ≠ "java/lang/invoke/MethodHandle" ∧ y.cls ≠ "java/lang/invoke/VarHandle") ∧ (parseMethodDescriptor y.desc).map (fun d => d.parameters.length) = some n
def jYS (y : MethodName) (by0 : ByteArray) (nY : Nat) (ret : Option FieldType) (n : Nat) : Prop := Cond.static y ∈ TB ∧ Cond.initialized y.cls ∈ TB ∧ Cond.code y by0 nY ret ∈ TB ∧ (y.cls ≠ "java/lang/invoke/MethodHandle" ∧ y.cls ≠ "java/lang/invoke/VarHandle") ∧ (parseMethodDescriptor y.desc).map (fun d => d.parameters.length) = some n
theorem jTB_code {args : Array Value} {s : State} (hts : ∀ w ∈ TB, w.before args s = true) (hc : Cond.code y by0 nY ret ∈ TB) : ∀ w ∈ Cond.code y by0 nY ret :: TB, ∀ (a' : Array Value) (U : State), s.WarmedH U.vm → w.before a' U = true := by
  intro w hw
  rcases List.mem_cons.mp hw with h | h
  · subst h; exact TB_pay hts _ hc
  · exact TB_pay hts _ h
theorem j_callB (C : jC p l s m args meth c G own cc nL) {n : Nat} (hi : Cond.initialized y.cls ∈ TB) (hc : Cond.code y by0 nY ret ∈ TB) (hm : y.cls ≠ "java/lang/invoke/MethodHandle" ∧ y.cls ≠ "java/lang/invoke/VarHandle") (hn : (parseMethodDescriptor y.desc).map (fun d => d.parameters.length) = some n) (hlink : Cond.methodLink own index y ∈ TB) (hR : fr + 1 ≤ R.frames ∧ 8 + (nY + 11) + lo ≤ R.locals) :
    CallB R s args own index y by0 nY ret (Cond.code y by0 nY ret :: TB) (jrm fr mc ms lo) mc ms n := by
  have hts := C.1.2.2.2.2
  refine ⟨rfl, rfl, hR.1, hR.2, jTB_code hts hc, List.mem_cons_self, hts _ hc, hts _ hi, hm, fun sig h => ?_, hts _ hlink⟩
  rw [h] at hn
  exact (Option.some.inj hn).symm
/-- a method is called on an object -/
theorem j_callV (C : jC p l s m args meth c G own cc nL) {n b i : Nat} {T : u_T} {N : Nat} (hM : jM l G y by0 nY ret fr mc ms lo (.ref b :: As) σ Qr Qx) (hY : jYV y by0 nY ret n) (hlink : Cond.methodLink own index y ∈ TB) (hc : vwCl[i]? = some (y.cls, T, N)) (hb : σ.1 b = (1, i, N)) (hn : As.length = n) (hR : fr + 1 ≤ R.frames ∧ 8 + (nY + 11) + lo ≤ R.locals) (hf : k1 + mc ≤ R.cells ∧ k2 + ms ≤ R.slots) (hW : (st.map fun v => v.category).sum ≤ 8) (hst : st0 = As.reverse ++ .ref b :: st) (hdg : decode cc pc = .ok (.invokevirtual index, 3))
    (kk : ∀ (r : Option Value) (σ' : jH), Qr r σ' → jd p l e R s m args below meth c G nL Q (k1 + mc) (k2 + ms) σ' (pc + 3) lv (r.toList ++ st))
    (kx : ∀ (E : String) (σ' : jH), Qx E σ' → jdx p l e R s m args below meth c G nL Q (k1 + mc) (k2 + ms) E σ' pc lv st) : jd p l e R s m args below meth c G nL Q k1 k2 σ pc lv st0 := by
  obtain ⟨y1, y2, y3, y4, y5, y6⟩ := hY
  have hts := C.1.2.2.2.2
  refine j_run (a := (Value.ref b :: As).toArray) (fun H locs ls hR1 hl => ?_) kk kx
  refine vx_runV C.1 hM ⟨j_callB C y3 y4 y5 y6 hlink hR, hts _ y1, hts _ y2⟩ ⟨jP_blind, ?_, fun U hU hW => ⟨rfl, by rw [hU]; exact hR1, va_K.moved hW.alike C.2.1, jE.moved hW C.2.2.2⟩⟩ rfl hn hl.1 hst (lv_room hW) hdg hf
  obtain ⟨r, h1, -, cell, q1, q2, q3, -⟩ := (hR1.1.2 b).2.1 (by rw [hb]; simp)
  rw [hb] at h1 q2
  have hr : r = (y.cls, T, N) := Option.some.inj (h1.symm.trans hc)
  subst hr
  exact ⟨cell, q1, by rw [q3]; rfl, by rw [q2]; exact (C.2.1.1 i _ hc).2.1⟩
/-- a static method is called -/
theorem j_callS (C : jC p l s m args meth c G own cc nL) {n : Nat} (hM : jM l G y by0 nY ret fr mc ms lo As σ Qr Qx) (hY : jYS y by0 nY ret n) (hlink : Cond.methodLink own index y ∈ TB) (hn : As.length = n) (hR : fr + 1 ≤ R.frames ∧ 8 + (nY + 11) + lo ≤ R.locals) (hf : k1 + mc ≤ R.cells ∧ k2 + ms ≤ R.slots) (hW : (st.map fun v => v.category).sum ≤ 8) (hst : st0 = As.reverse ++ st) (hdg : decode cc pc = .ok (.invokestatic index, 3))
    (kk : ∀ (r : Option Value) (σ' : jH), Qr r σ' → jd p l e R s m args below meth c G nL Q (k1 + mc) (k2 + ms) σ' (pc + 3) lv (r.toList ++ st))
    (kx : ∀ (E : String) (σ' : jH), Qx E σ' → jdx p l e R s m args below meth c G nL Q (k1 + mc) (k2 + ms) E σ' pc lv st) : jd p l e R s m args below meth c G nL Q k1 k2 σ pc lv st0 := by
  obtain ⟨y1, y3, y4, y5, y6⟩ := hY
  have hts := C.1.2.2.2.2
  refine j_run (a := As.toArray) (fun H locs ls hR1 hl => ?_) kk kx
  exact vx_runS C.1 hM ⟨j_callB C y3 y4 y5 y6 hlink hR, hts _ y1⟩ ⟨jP_blind, fun U hU hW => ⟨rfl, by rw [hU]; exact hR1, va_K.moved hW.alike C.2.1, jE.moved hW C.2.2.2⟩⟩ rfl hn hl.1 hst (lv_room hW) hdg hf
end JCALLS
