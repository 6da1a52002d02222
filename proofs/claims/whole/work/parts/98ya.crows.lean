/-! ===== constructors: rows ===== -/
section CTC
variable {p : Program} {l : Launch} {e : Env} {R : Room} {s : State} {m : MethodId} {args : Array Value} {below : List Frame} {meth : Method} {c : Code} {T : State} {locs : List Loc} {cells slots : Nat}
theorem vx_callI (X : Stand p l e R s m args below meth c T locs cells slots) (hexec : p.tables.exec = Jvm.exec) {own : String} {index : Nat} {y : MethodName} {bytes : ByteArray} {maxL : Nat}
    (hown : s.vm.findClass own = some m.cls) (hy1 : y.name = "<init>") (hlink : (Cond.methodLink own index y).before args s = true ∨ ∃ host, (Cond.methodLinkNest own index y host).before args s = true) (hinst : (Cond.instanceMethod y).before args s = true)
    (hcode : (Cond.code y bytes maxL none).before args s = true) (hy : y.cls ≠ "java/lang/invoke/MethodHandle" ∧ y.cls ≠ "java/lang/invoke/VarHandle")
    {W9 : Nat} {Pre : Pt → Array Value → Prop} {Post : Pt → Array Value → Option Value → Pt → Prop} {PostX : Pt → Array Value → Addr → Pt → Prop} (hK : vx_Back l R p e below s args y 3 W9 Pre Post PostX)
    {g : JFrame} (hg : g.method = m) (hsize : g.locals.size = c.maxLocals) {a : Addr} {argsL rest : List Value} (hlen : ∀ sig, parseMethodDescriptor y.desc = some sig → argsL.length = sig.parameters.length)
    (hstack : g.stack = argsL.reverse ++ .ref a :: rest) (hW : 2 * g.monitorRoom + (rest.map fun v => v.category).sum ≤ W9) (hdg : decode c.code g.pc = .ok (.invokespecial index, 3))
    (hpre : ∀ vm₁, s.WarmedH vm₁ → Pre ⟨T.setVm vm₁, locs, cells, slots⟩ (Value.ref a :: argsL).toArray) :
    (∃ (v : Option Value) (vm₁ : Vm) (B : Pt), s.WarmedH vm₁ ∧ Stand p l e R s m args below meth c B.U B.locs B.cells B.slots ∧ Post ⟨T.setVm vm₁, locs, cells, slots⟩ (Value.ref a :: argsL).toArray v B ∧
      ∀ target, Steps p.tables e below (B.U.setTop { g with pc := g.pc + 3, stack := v.toList ++ rest }) target → Steps p.tables e below (T.setTop g) target) ∨
    (∃ (q : Addr) (vm₁ : Vm) (B : Pt), s.WarmedH vm₁ ∧ Stand p l e R s m args below meth c B.U B.locs B.cells B.slots ∧ PostX ⟨T.setVm vm₁, locs, cells, slots⟩ (Value.ref a :: argsL).toArray q B ∧
      Steps p.tables e below (T.setTop g) ((B.U.setTop { g with stack := rest }).pushFrame (.throwing q))) := by
  subst hg
  have hpl : e.platform.magicAccessors = ({} : Platform).magicAccessors := by rw [X.admits.platform]
  rcases hlink with hlink | ⟨host, hlink⟩
  · obtain ⟨mk, methM, cM, kP, vm₁, hnamed, hmethM, hcodeM, -, hlocalsM, -, hkP, -, hW₁, hstep₁⟩ := Steps.initColdArgs (e := e) X.here hexec X.warmed hpl hown hy1 hy hlink hinst hcode (f := g) rfl hlen hstack hdg
    have X₁ := X.noted hW₁
    rcases hK g.method meth c ⟨T.setVm vm₁, locs, cells, slots⟩ { g with stack := rest } (.invokespecial index) mk (Value.ref a :: argsL).toArray X₁ rfl hsize hdg hW (X₁.named hnamed) (hpre vm₁ X₁.warmed) with ⟨v, B, X', hpost, hsteps⟩ | ⟨q, B, X', hpost, hsteps⟩
    · exact Or.inl ⟨v, vm₁, B, X₁.warmed, X', hpost, fun target h => hstep₁ _ fun acts => by rw [doInvoke_state]; exact hsteps.trans h⟩
    · exact Or.inr ⟨q, vm₁, B, X₁.warmed, X', hpost, hstep₁ _ fun acts => by rw [doInvoke_state]; exact hsteps⟩
  · obtain ⟨mk, methM, cM, kP, vm₁, hnamed, hmethM, hcodeM, -, hlocalsM, -, hkP, -, hW₁, hstep₁⟩ := Steps.initColdArgsNest (e := e) X.here hexec X.warmed hpl hown hy1 hy hlink hinst hcode (f := g) rfl hlen hstack hdg
    have X₁ := X.noted hW₁
    rcases hK g.method meth c ⟨T.setVm vm₁, locs, cells, slots⟩ { g with stack := rest } (.invokespecial index) mk (Value.ref a :: argsL).toArray X₁ rfl hsize hdg hW (X₁.named hnamed) (hpre vm₁ X₁.warmed) with ⟨v, B, X', hpost, hsteps⟩ | ⟨q, B, X', hpost, hsteps⟩
    · exact Or.inl ⟨v, vm₁, B, X₁.warmed, X', hpost, fun target h => hstep₁ _ fun acts => by rw [doInvoke_state]; exact hsteps.trans h⟩
    · exact Or.inr ⟨q, vm₁, B, X₁.warmed, X', hpost, hstep₁ _ fun acts => by rw [doInvoke_state]; exact hsteps⟩
end CTC
section CTR
variable {p : Program} {l : Launch} {e : Env} {R : Room} {s : State} {m : MethodId} {args : Array Value} {below : List Frame} {meth : Method} {c : Code} {H : Heap} {locs : List Loc} {cells slots : Nat}
variable {y : MethodName} {bytes cc : ByteArray} {maxL nL mc ms n index : Nat} {ws : List Cond} {rm : Room} {Pc : Array Value → State → Prop} {Qc : Array Value → State → Outcome → State → Prop} {XC : String → State → State → Prop} {free : Addr → Prop} {Ts : List Cond} {own C : String} {b : Addr} {As rest : List Value} {g : JFrame}
theorem vx_runI (S : CallFix p m c cc nL s args Ts own) (hM : vx_Met l y ws rm Pc Qc XC mc ms free) (hrr : rm.cells = mc ∧ rm.slots = ms ∧ rm.frames + 1 ≤ R.frames ∧ 8 + (maxL + 11) + rm.locals ≤ R.locals) (hws : ∀ w ∈ ws, ∀ a' U, s.WarmedH U.vm → w.before a' U = true) (hcw : Cond.code y bytes maxL none ∈ ws) (hini : (Cond.initialized y.cls).before args s = true) (hcode : (Cond.code y bytes maxL none).before args s = true) (hy : y.cls ≠ "java/lang/invoke/MethodHandle" ∧ y.cls ≠ "java/lang/invoke/VarHandle") (hlen : ∀ sig, parseMethodDescriptor y.desc = some sig → n = sig.parameters.length)
    (hl : (Cond.methodLink own index y).before args s = true ∨ ∃ host, (Cond.methodLinkNest own index y host).before args s = true) (hy1 : y.name = "<init>") (hin : (Cond.instanceMethod y).before args s = true) (hp : PreS s H Pc (.ref b :: As))
    (hg : g.method = m) (hn : As.length = n) (hsize : g.locals.size = nL) (hstack : g.stack = As.reverse ++ .ref b :: rest) (hW : 2 * g.monitorRoom + (rest.map fun v => v.category).sum ≤ 8) (hdg : decode cc g.pc = .ok (.invokespecial index, 3)) (hf : cells + mc ≤ R.cells ∧ slots + ms ≤ R.slots) :
    vx_Run p l e R s m args below meth c H locs cells slots mc ms g rest (Qc (Value.ref b :: As).toArray) XC free := by
  have hK : vx_Back l R p e below s args y 3 8 (PreOf R mc ms Pc) (PostOf Qc mc ms free) (vx_Post XC mc ms free) := vx_back (bytes := bytes) (maxL := maxL) (ret := none) hM hp.1 hrr.1 hrr.2.1 hrr.2.2.1 hrr.2.2.2 hws hcw (fun a' U hW => word_at hW (Or.inl (by first | rfl | simp [Cond.onTables, Cond.keeps, Cond.steady])) hini)
  obtain ⟨hx, hb, hml, ho, -⟩ := S
  intro T hT X
  rcases vx_callI X hx (bytes := bytes) (maxL := maxL) ho hy1 hl hin hcode hy hK hg (hsize.trans hml.symm) (a := b) (argsL := As) (rest := rest) (fun sig h => hn.trans (hlen sig h)) hstack hW (by rw [hb]; exact hdg)
    (fun vm₁ hW₁ => ⟨hf.1, hf.2, hp.2 (T.setVm vm₁) hT hW₁⟩) with ⟨v, vm₁, ⟨U', l2, c2, s2⟩, hW₁, X', ⟨g', mk, t, L, e1, e2, hq, h1, hL, h2, h3⟩, st⟩ | ⟨q, vm₁, ⟨U', l2, c2, s2⟩, hW₁, X', ⟨g', mk, t, L, E, ce, e1, e2, hq, hce, hcv, hcl, h1, hL, h2, h3⟩, st⟩
  · dsimp only [Pt.U, Pt.locs, Pt.cells, Pt.slots] at X' e1 e2 h1 h2 h3 st
    subst h1; subst h2; subst h3
    exact Or.inl ⟨v, (T.setVm vm₁).calling g' mk (Value.ref b :: As).toArray, t, U', L, hT, X', hL, e1, e2, hq, st⟩
  · dsimp only [Pt.U, Pt.locs, Pt.cells, Pt.slots] at X' e1 e2 h1 h2 h3 st hcl
    subst h1; subst h2; subst h3
    exact Or.inr ⟨q, (T.setVm vm₁).calling g' mk (Value.ref b :: As).toArray, t, U', L, E, ce, hT, X', hL, e1, e2, hq, hce, hcv, vx_cls hW₁ hcl, st⟩
end CTR
section CTJ
variable {p : Program} {l : Launch} {e : Env} {R : Room} {s : State} {m : MethodId} {args : Array Value} {below : List Frame} {meth : Method} {c : Code} {Q : State → Prop} {G : jG} {own : String} {cc : ByteArray} {nL k1 k2 : Nat} {σ : jH} {pc : Nat} {lv lv' : List (Nat × Value)} {st st0 : List Value}
variable {y : MethodName} {by0 : ByteArray} {nY fr mc ms lo index : Nat} {av As : List Value} {Qr : Option Value → jH → Prop} {Qx : String → jH → Prop}
def jYI (y : MethodName) (by0 : ByteArray) (nY n : Nat) : Prop := Cond.instanceMethod y ∈ TB ∧ y.name = "<init>" ∧ Cond.initialized y.cls ∈ TB ∧ Cond.code y by0 nY none ∈ TB ∧ (y.cls ≠ "java/lang/invoke/MethodHandle" ∧ y.cls ≠ "java/lang/invoke/VarHandle") ∧ (parseMethodDescriptor y.desc).map (fun d => d.parameters.length) = some n
/-- a constructor is called -/
theorem j_callI (C : jC p l s m args meth c G own cc nL) {n b : Nat} (hM : jM l G y by0 nY none fr mc ms lo (.ref b :: As) σ Qr Qx) (hY : jYI y by0 nY n) (hlink : Cond.methodLink own index y ∈ TB ∨ ∃ host, Cond.methodLinkNest own index y host ∈ TB) (hn : As.length = n) (hR : fr + 1 ≤ R.frames ∧ 8 + (nY + 11) + lo ≤ R.locals) (hf : k1 + mc ≤ R.cells ∧ k2 + ms ≤ R.slots) (hW : (st.map fun v => v.category).sum ≤ 8) (hst : st0 = As.reverse ++ .ref b :: st) (hdg : decode cc pc = .ok (.invokespecial index, 3))
    (kk : ∀ (r : Option Value) (σ' : jH), Qr r σ' → jd p l e R s m args below meth c G nL Q (k1 + mc) (k2 + ms) σ' (pc + 3) lv (r.toList ++ st))
    (kx : ∀ (E : String) (σ' : jH), Qx E σ' → jdx p l e R s m args below meth c G nL Q (k1 + mc) (k2 + ms) E σ' pc lv st) : jd p l e R s m args below meth c G nL Q k1 k2 σ pc lv st0 := by
  obtain ⟨y1, y2, y3, y4, y5, y6⟩ := hY
  have hts := C.1.2.2.2.2
  refine j_run (a := (Value.ref b :: As).toArray) (fun H locs ls hR1 hl => ?_) kk kx
  have hl2 : (Cond.methodLink own index y).before args s = true ∨ ∃ host, (Cond.methodLinkNest own index y host).before args s = true := by
    rcases hlink with h | ⟨host, h⟩
    · exact Or.inl (hts _ h)
    · exact Or.inr ⟨host, hts _ h⟩
  exact vx_runI (bytes := by0) (maxL := nY) C.1 hM ⟨rfl, rfl, hR.1, hR.2⟩ (jTB_code hts y4) List.mem_cons_self (hts _ y3) (hts _ y4) y5 (fun sig h => by rw [h] at y6; exact (Option.some.inj y6).symm) hl2 y2 (hts _ y1) ⟨jP_blind, fun U hU hW => ⟨rfl, by rw [hU]; exact hR1, va_K.moved hW.alike C.2.1, jE.moved hW C.2.2.2⟩⟩ rfl hn hl.1 hst (lv_room hW) hdg hf
/-- an object is made: its fields as they begin -/
theorem j_newc (C : jC p l s m args meth c G own cc nL) {i N : Nat} {Cn : String} {T : u_T} {ty0 : Nat → FieldType} (hc : vwCl[i]? = some (Cn, T, N)) (hin : ∀ w ∈ u_ws Cn T N, w ∈ TB) (hty : ∀ k, k < N → parseFieldDescriptor (T k).2.2.1 = some (ty0 k)) (hcl : Cond.classLink own index Cn ∈ TB) (hins : Cond.instantiable Cn N ∈ TB) (hini : Cond.initialized Cn ∈ TB) (hf : k1 + 1 ≤ R.cells ∧ k2 + N ≤ R.slots) (hdg : decode cc pc = .ok (.new index, 3))
    (kk : ∀ a, jFree G σ a → jd p l e R s m args below meth c G nL Q (k1 + 1) (k2 + N) (jMade σ a (3, i, N) (fun k => defaultValue (ty0 k))) (pc + 3) lv (.ref a :: st)) : jd p l e R s m args below meth c G nL Q k1 k2 σ pc lv st := by
  intro H locs ls hR hL hl
  have hts := C.1.2.2.2.2
  have hKn := C.2.1.1 i _ hc
  refine W.newcK C.1.1 C.1.2.1 C.1.2.2.2.1 (hts _ hcl) (hts _ hins) (hts _ hini) rfl hdg hf.1 hf.2 hKn.2.1 rfl fun H1 kC hkC e1 z1 o1 => ?_
  have hR' : jR G H1 (jMade σ H.size (3, i, N) (fun k => defaultValue (ty0 k))) := by
    refine jR_made hR rfl (by omega) o1 (Or.inl ⟨rfl, (Cn, T, N), hc, rfl, ?_⟩)
    exact u_born ty0 hts (fun w hw => hin w hw) hKn hkC e1 hty
  exact kk H.size (jR_none hR (Nat.le_refl _)) H1 locs ls hR' hL hl
/-- a row of references is made: nothing in it yet -/
theorem j_anew (C : jC p l s m args meth c G own cc nL) {t : Nat} {Cn : String} (ht : 5 ≤ t ∧ t < 8) (hty : j_aty t = .object Cn) (hcl : Cond.classLink own index Cn ∈ TB) (hov : Cond.arrayOver (.object Cn) ∈ TB) {n : Int32} {N : Nat} (hn : ¬ n < 0) (hN : n.toNatClampNeg = N) (hb : N ≤ 65536) (hf : k1 + 1 ≤ R.cells ∧ k2 + N ≤ R.slots) (hdg : decode cc pc = .ok (.anewarray index, 3))
    (kk : ∀ a, jFree G σ a → jd p l e R s m args below meth c G nL Q (k1 + 1) (k2 + N) (jMade σ a (4, t, N) (fun _ => .null)) (pc + 3) lv (.ref a :: st)) : jd p l e R s m args below meth c G nL Q k1 k2 σ pc lv (.int n :: st) := by
  subst hN
  intro H locs ls hR hL hl
  have hts := C.1.2.2.2.2
  refine W.anew C.1.1 C.1.2.1 C.1.2.2.2.1 (hts _ hcl) (hts _ hov) rfl hdg rfl hn (by omega) hf.1 hf.2 fun cA kA comp f1 f2 f3 f4 => ?_
  generalize hH1 : H.push ({ cls := cA, slots := Array.replicate n.toNatClampNeg .null, vm := .none } : Cell) = H1
  have z1 : H1.size = H.size + 1 := by rw [← hH1, Array.size_push]
  have e1 : H1[H.size]? = some (arrV cA n.toNatClampNeg (fun _ => .null)) := by rw [← hH1, Array.getElem?_push_size, ← arrV_new]
  have o1 : ∀ q : Nat, q < H.size → H1[q]? = H[q]? := fun q hq => by rw [← hH1, Array.getElem?_push, if_neg (Nat.ne_of_lt hq)]
  have hcA : G.2.1 t = cA := by
    have h8 := (C.2.1.2 t _ (jtys_at G (t := t) ht.2)).2
    have h9 : va_RA s (G.2.1 t) (.object Cn) := by rw [← hty]; exact h8
    obtain ⟨kA', comp', q1, q2, q3, q4⟩ := h9
    exact Option.some.inj (q4.symm.trans f1)
  have hR' : jR G H1 (jMade σ H.size (4, t, n.toNatClampNeg) (fun _ => .null)) := by
    refine jR_made hR rfl (by omega) o1 (Or.inr ⟨Or.inr rfl, ⟨ht.2, ?_⟩, fun h => by cases h⟩)
    show H1[H.size]? = some (arrV (G.2.1 t) n.toNatClampNeg _)
    rw [hcA, e1]
  exact kk H.size (jR_none hR (Nat.le_refl _)) H1 locs ls hR' hL hl
/-- another shape and contents at one address: what lies there must fit -/
def jPro (σ : jH) (a : Nat) (e : Nat × Nat × Nat) : jH := (fun b => if b = a then e else σ.1 b, σ.2)
/-- an object or a row of references is ready -/
theorem jR_pro {G : jG} {H : Heap} {σ : jH} {a i N : Nat} (hR : jR G H σ) (h : (σ.1 a = (3, i, N) ∧ ∀ j, j < N → j_ok (jPro σ a (1, i, N)).1 (j_fT i j) (σ.2 a j))) : jR G H (jPro σ a (1, i, N)) := by
  obtain ⟨h1, h2⟩ := h
  have ea : (jPro σ a (1, i, N)).1 a = (1, i, N) := if_pos rfl
  have en : ∀ b, b ≠ a → (jPro σ a (1, i, N)).1 b = σ.1 b := fun b hb => if_neg hb
  have hs : ∀ r, (σ.1 r).1 = 1 ∨ (σ.1 r).1 = 2 ∨ (σ.1 r).1 = 6 → (jPro σ a (1, i, N)).1 r = σ.1 r := by
    intro r hr
    have hne : r ≠ a := by
      intro q
      subst q
      rw [h1] at hr
      rcases hr with g | g | g <;> cases g
    exact en r hne
  have kT : ∀ i j, (j_fT i j).1 = 0 ∨ (j_fT i j).1 = 1 ∨ (j_fT i j).1 = 2 ∨ (j_fT i j).1 = 3 ∨ (j_fT i j).1 = 5 ∨ (j_fT i j).1 = 6 ∨ (j_fT i j).1 = 9 ∨ (j_fT i j).1 = 10 := by
    intro i j
    rcases j_fT_k i j with h | h | h | h | h <;> simp [h]
  have kE : ∀ i, (j_eT i).1 = 0 ∨ (j_eT i).1 = 1 ∨ (j_eT i).1 = 2 ∨ (j_eT i).1 = 3 ∨ (j_eT i).1 = 5 ∨ (j_eT i).1 = 6 ∨ (j_eT i).1 = 9 ∨ (j_eT i).1 = 10 := by
    intro i
    rcases j_eT_k i with h | h | h | h | h <;> simp [h]
  refine ⟨⟨hR.1.1, fun b => ?_⟩, fun b j => ?_⟩
  · by_cases hb : b = a
    · subst hb
      rw [ea]
      obtain ⟨p0, p1, p2, p6⟩ := hR.1.2 b
      rw [h1] at p0 p1
      exact ⟨fun _ => p0 (by show (3 : Nat) ≠ 0; decide), fun _ => p1 (Or.inr rfl), fun g => (by rcases g with g | g <;> cases g), fun g => (by cases g)⟩
    · rw [en b hb]
      obtain ⟨p0, p1, p2, p6⟩ := hR.1.2 b
      refine ⟨p0, p1, p2, fun g => ?_⟩
      obtain ⟨q, L, n9, bs, gg, g1, g2, g3, g4, g5, g6, g7, g8, g9, g10, g11, g12, g13, g14⟩ := p6 g
      have hq : q ≠ a := by
        intro z
        rw [z, h1] at g2
        exact g2.2.2.1 rfl
      refine ⟨q, L, n9, bs, gg, g1, by rw [en q hq]; exact g2, g3, g4, g5, g6, g7, g8, g9, g10, g11, g12, g13, fun b2 hb2 => ?_⟩
      by_cases hz : b2 = a
      · rw [hz, ea] at hb2; cases hb2
      · rw [en b2 hz] at hb2; exact g14 b2 hb2
  · by_cases hb : b = a
    · subst hb
      rw [ea]
      exact ⟨fun _ hj => h2 j hj, fun g => (by cases g)⟩
    · rw [en b hb]
      obtain ⟨p1, p2⟩ := hR.2 b j
      exact ⟨fun g hj => j_okM hs (kT _ _) (p1 g hj), fun g hj => j_okM hs (kE _) (p2 g hj)⟩
theorem jR_pro4 {G : jG} {H : Heap} {σ : jH} {a t N : Nat} (hR : jR G H σ) (h : (σ.1 a = (4, t, N) ∧ ∀ j, j < N → j_ok (jPro σ a (2, t, N)).1 (j_eT t) (σ.2 a j))) : jR G H (jPro σ a (2, t, N)) := by
  obtain ⟨h1, h2⟩ := h
  have ea : (jPro σ a (2, t, N)).1 a = (2, t, N) := if_pos rfl
  have en : ∀ b, b ≠ a → (jPro σ a (2, t, N)).1 b = σ.1 b := fun b hb => if_neg hb
  have hs : ∀ r, (σ.1 r).1 = 1 ∨ (σ.1 r).1 = 2 ∨ (σ.1 r).1 = 6 → (jPro σ a (2, t, N)).1 r = σ.1 r := by
    intro r hr
    have hne : r ≠ a := by
      intro q
      subst q
      rw [h1] at hr
      rcases hr with g | g | g <;> cases g
    exact en r hne
  have kT : ∀ i j, (j_fT i j).1 = 0 ∨ (j_fT i j).1 = 1 ∨ (j_fT i j).1 = 2 ∨ (j_fT i j).1 = 3 ∨ (j_fT i j).1 = 5 ∨ (j_fT i j).1 = 6 ∨ (j_fT i j).1 = 9 ∨ (j_fT i j).1 = 10 := by
    intro i j
    rcases j_fT_k i j with h | h | h | h | h <;> simp [h]
  have kE : ∀ i, (j_eT i).1 = 0 ∨ (j_eT i).1 = 1 ∨ (j_eT i).1 = 2 ∨ (j_eT i).1 = 3 ∨ (j_eT i).1 = 5 ∨ (j_eT i).1 = 6 ∨ (j_eT i).1 = 9 ∨ (j_eT i).1 = 10 := by
    intro i
    rcases j_eT_k i with h | h | h | h | h <;> simp [h]
  refine ⟨⟨hR.1.1, fun b => ?_⟩, fun b j => ?_⟩
  · by_cases hb : b = a
    · subst hb
      rw [ea]
      obtain ⟨p0, p1, p2, p6⟩ := hR.1.2 b
      rw [h1] at p0 p2
      exact ⟨fun _ => p0 (by show (4 : Nat) ≠ 0; decide), fun g => (by rcases g with g | g <;> cases g), fun _ => p2 (Or.inr rfl), fun g => (by cases g)⟩
    · rw [en b hb]
      obtain ⟨p0, p1, p2, p6⟩ := hR.1.2 b
      refine ⟨p0, p1, p2, fun g => ?_⟩
      obtain ⟨q, L, n9, bs, gg, g1, g2, g3, g4, g5, g6, g7, g8, g9, g10, g11, g12, g13, g14⟩ := p6 g
      have hq : q ≠ a := by
        intro z
        rw [z, h1] at g2
        exact g2.2.2.2.1 rfl
      refine ⟨q, L, n9, bs, gg, g1, by rw [en q hq]; exact g2, g3, g4, g5, g6, g7, g8, g9, g10, g11, g12, g13, fun b2 hb2 => ?_⟩
      by_cases hz : b2 = a
      · rw [hz, ea] at hb2; cases hb2
      · rw [en b2 hz] at hb2; exact g14 b2 hb2
  · by_cases hb : b = a
    · subst hb
      rw [ea]
      exact ⟨fun g => (by cases g), fun _ hj => h2 j hj⟩
    · rw [en b hb]
      obtain ⟨p1, p2⟩ := hR.2 b j
      exact ⟨fun g hj => j_okM hs (kT _ _) (p1 g hj), fun g hj => j_okM hs (kE _) (p2 g hj)⟩
theorem jd_pro {a i N : Nat} (h : σ.1 a = (3, i, N) ∧ ∀ j, j < N → j_ok (jPro σ a (1, i, N)).1 (j_fT i j) (σ.2 a j)) (kk : jd p l e R s m args below meth c G nL Q k1 k2 (jPro σ a (1, i, N)) pc lv st) : jd p l e R s m args below meth c G nL Q k1 k2 σ pc lv st := fun H locs ls hR hL hl => kk H locs ls (jR_pro hR h) hL hl
theorem jd_pro4 {a t N : Nat} (h : σ.1 a = (4, t, N) ∧ ∀ j, j < N → j_ok (jPro σ a (2, t, N)).1 (j_eT t) (σ.2 a j)) (kk : jd p l e R s m args below meth c G nL Q k1 k2 (jPro σ a (2, t, N)) pc lv st) : jd p l e R s m args below meth c G nL Q k1 k2 σ pc lv st := fun H locs ls hR hL hl => kk H locs ls (jR_pro4 hR h) hL hl
end CTJ
