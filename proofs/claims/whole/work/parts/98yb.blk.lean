/-! ===== constructors: the cells that were made ===== -/
/-- from σ to σ1: the object f 0, and n - 1 new cells f 1 .. f (n - 1); S their shapes, V what they hold; all else as before -/
def Blk (G : jG) (σ σ1 : jH) (n : Nat) (f : Nat → Nat) (S : Nat → Nat × Nat × Nat) (V : Nat → Nat → Value) : Prop :=
  (∀ i j, i < n → j < n → f i = f j → i = j) ∧ (∀ i, 0 < i → i < n → jFree G σ (f i)) ∧ (∀ i, i < n → σ1.1 (f i) = S i ∧ ∀ k, σ1.2 (f i) k = V i k) ∧ (∀ b, (∀ i, i < n → b ≠ f i) → σ1.1 b = σ.1 b ∧ ∀ k, σ1.2 b k = σ.2 b k) ∧ ∀ i, i < n → (S i).1 = 1 ∨ (S i).1 = 2 ∨ (S i).1 = 3 ∨ (S i).1 = 4 ∨ (S i).1 = 6
def updS (S : Nat → Nat × Nat × Nat) (i : Nat) (e : Nat × Nat × Nat) : Nat → Nat × Nat × Nat := fun j => if j = i then e else S j
def updW (V : Nat → Nat → Value) (i k : Nat) (v : Value) : Nat → Nat → Value := fun j q => if j = i ∧ q = k then v else V j q
def catF {α : Type} (n : Nat) (f g : Nat → α) : Nat → α := fun i => if i < n then f i else g (i - n)
theorem catF_l {α : Type} {n i : Nat} (f g : Nat → α) (h : i < n) : catF n f g i = f i := if_pos h
theorem catF_r {α : Type} (n : Nat) (f g : Nat → α) (i : Nat) : catF n f g (n + i) = g i := by
  unfold catF
  rw [if_neg (by omega), Nat.add_sub_cancel_left]
section BLK
variable {G : jG} {σ σ1 σ2 : jH} {n m : Nat} {f g : Nat → Nat} {S S' : Nat → Nat × Nat × Nat} {V V' : Nat → Nat → Value}
theorem Blk.one {a : Nat} {e : Nat × Nat × Nat} (h : σ.1 a = e) (he : e.1 = 1 ∨ e.1 = 2 ∨ e.1 = 3 ∨ e.1 = 4 ∨ e.1 = 6) : Blk G σ σ 1 (fun _ => a) (fun _ => e) (fun _ => σ.2 a) :=
  ⟨fun i j hi hj _ => by omega, fun i h0 h1 => by omega, fun i _ => ⟨h, fun _ => rfl⟩, fun b _ => ⟨rfl, fun _ => rfl⟩, fun _ _ => he⟩
theorem Blk.put (h : Blk G σ σ1 n f S V) {i : Nat} (hi : i < n) (k : Nat) (v : Value) : Blk G σ (pV σ1 (f i) k v) n f S (updW V i k v) := by
  obtain ⟨h1, h2, h3, h4, h5⟩ := h
  refine ⟨h1, h2, fun j hj => ⟨(h3 j hj).1, fun q => ?_⟩, fun b hb => ⟨(h4 b hb).1, fun q => ?_⟩, h5⟩
  · show (if f j = f i ∧ q = k then v else σ1.2 (f j) q) = if j = i ∧ q = k then v else V j q
    by_cases z : j = i ∧ q = k
    · rw [if_pos z, if_pos ⟨by rw [z.1], z.2⟩]
    · rw [if_neg z, if_neg (fun w => z ⟨h1 j i hj hi w.1, w.2⟩)]; exact (h3 j hj).2 q
  · show (if b = f i ∧ q = k then v else σ1.2 b q) = σ.2 b q
    rw [if_neg (fun w => hb i hi w.1)]
    exact (h4 b hb).2 q
theorem Blk.pro (h : Blk G σ σ1 n f S V) {i : Nat} (hi : i < n) {e : Nat × Nat × Nat} (he : e.1 = 1 ∨ e.1 = 2 ∨ e.1 = 3 ∨ e.1 = 4 ∨ e.1 = 6) : Blk G σ (jPro σ1 (f i) e) n f (updS S i e) V := by
  obtain ⟨h1, h2, h3, h4, h5⟩ := h
  refine ⟨h1, h2, fun j hj => ⟨?_, (h3 j hj).2⟩, fun b hb => ⟨?_, (h4 b hb).2⟩, fun j hj => ?_⟩
  · show (if f j = f i then e else σ1.1 (f j)) = if j = i then e else S j
    by_cases z : j = i
    · rw [if_pos z, if_pos (by rw [z])]
    · rw [if_neg z, if_neg (fun w => z (h1 j i hj hi w))]; exact (h3 j hj).1
  · show (if b = f i then e else σ1.1 b) = σ.1 b
    rw [if_neg (hb i hi)]
    exact (h4 b hb).1
  · unfold updS
    split
    · exact he
    · exact h5 j hj
theorem Blk.nfree (h : Blk G σ σ1 n f S V) {a : Nat} (ha : jFree G σ1 a) : ∀ i, i < n → a ≠ f i := by
  intro i hi z
  obtain ⟨h1, h2, h3, h4, h5⟩ := h
  obtain ⟨⟨a1, a2, a3, a4, a6⟩, -⟩ := ha
  rw [z, (h3 i hi).1] at a1 a2 a3 a4 a6
  have := h5 i hi
  omega
theorem Blk.free (h : Blk G σ σ1 n f S V) {a : Nat} (ha : jFree G σ1 a) : jFree G σ a := by
  have hn := h.nfree ha
  obtain ⟨h1, h2, h3, h4, h5⟩ := h
  obtain ⟨a1, a2⟩ := ha
  rw [(h4 a hn).1] at a1
  exact ⟨a1, a2⟩
/-- a cell is made, and what a constructor then makes of it -/
theorem Blk.cat (h : Blk G σ σ1 n f S V) {a : Nat} {e : Nat × Nat × Nat} {d : Nat → Value} (ha : jFree G σ1 a) (hg : g 0 = a) (hm : 0 < m) (k : Blk G (jMade σ1 a e d) σ2 m g S' V') : Blk G σ σ2 (n + m) (catF n f g) (catF n S S') (catF n V V') := by
  have hn := h.nfree ha
  have hfr := h.free ha
  have h' := h
  obtain ⟨h1, h2, h3, h4, h5⟩ := h
  obtain ⟨k1, k2, k3, k4, k5⟩ := k
  have kf : ∀ j, j < m → jFree G σ1 (g j) := by
    intro j hj
    by_cases z : j = 0
    · rw [z, hg]; exact ha
    · obtain ⟨b1, b2⟩ := k2 j (by omega) hj
      have hne : g j ≠ a := by
        intro w
        have := k1 j 0 hj hm (by rw [w, hg])
        omega
      rw [(jMade_n σ1 e d hne).1] at b1
      exact ⟨b1, b2⟩
  have kn : ∀ j, j < m → ∀ i, i < n → g j ≠ f i := fun j hj => h'.nfree (kf j hj)
  refine ⟨fun i j hi hj w => ?_, fun i h0 hi => ?_, fun i hi => ?_, fun b hb => ?_, fun i hi => ?_⟩
  · unfold catF at w
    by_cases zi : i < n
    · rw [if_pos zi] at w
      by_cases zj : j < n
      · rw [if_pos zj] at w; exact h1 i j zi zj w
      · rw [if_neg zj] at w; exact absurd w.symm (kn (j - n) (by omega) i zi)
    · rw [if_neg zi] at w
      by_cases zj : j < n
      · rw [if_pos zj] at w; exact absurd w (kn (i - n) (by omega) j zj)
      · rw [if_neg zj] at w
        have := k1 (i - n) (j - n) (by omega) (by omega) w
        omega
  · unfold catF
    by_cases zi : i < n
    · rw [if_pos zi]; exact h2 i h0 zi
    · rw [if_neg zi]; exact h'.free (kf (i - n) (by omega))
  · unfold catF
    by_cases zi : i < n
    · rw [if_pos zi, if_pos zi, if_pos zi]
      have hb : ∀ j, j < m → f i ≠ g j := fun j hj w => kn j hj i zi w.symm
      have hne : f i ≠ a := fun w => hn i zi w.symm
      obtain ⟨b1, b2⟩ := k4 (f i) hb
      refine ⟨b1.trans ((jMade_n σ1 e d hne).1.trans (h3 i zi).1), fun q => (b2 q).trans (((jMade_n σ1 e d hne).2 q).trans ((h3 i zi).2 q))⟩
    · rw [if_neg zi, if_neg zi, if_neg zi]
      exact k3 (i - n) (by omega)
  · have b0 : ∀ i, i < n → b ≠ f i := fun i hi => by have := hb i (by omega); rwa [catF_l _ _ hi] at this
    have b1 : ∀ j, j < m → b ≠ g j := fun j hj => by have := hb (n + j) (by omega); rwa [catF_r] at this
    have hne : b ≠ a := by have := b1 0 hm; rwa [hg] at this
    obtain ⟨c1, c2⟩ := k4 b b1
    obtain ⟨d1, d2⟩ := h4 b b0
    exact ⟨c1.trans ((jMade_n σ1 e d hne).1.trans d1), fun q => (c2 q).trans (((jMade_n σ1 e d hne).2 q).trans (d2 q))⟩
  · unfold catF
    by_cases zi : i < n
    · rw [if_pos zi]; exact h5 i zi
    · rw [if_neg zi]; exact k5 (i - n) (by omega)
theorem Blk.add (h : Blk G σ σ1 n f S V) {a : Nat} {e : Nat × Nat × Nat} {d : Nat → Value} (ha : jFree G σ1 a) (he : e.1 = 1 ∨ e.1 = 2 ∨ e.1 = 3 ∨ e.1 = 4 ∨ e.1 = 6) : Blk G σ (jMade σ1 a e d) (n + 1) (catF n f (fun _ => a)) (catF n S (fun _ => e)) (catF n V (fun _ => d)) := by
  have k := Blk.one (G := G) (σ := jMade σ1 a e d) (jMade_a σ1 a e d).1 he
  rw [show (jMade σ1 a e d).2 a = d from funext (jMade_a σ1 a e d).2] at k
  exact h.cat ha rfl (by omega) k
theorem Blk.to (h : Blk G σ σ1 n f S V) {f' : Nat → Nat} (hf : ∀ i, i < n → f' i = f i) (hS : ∀ i, i < n → S' i = S i) (hV : ∀ i, i < n → ∀ k, V' i k = V i k) : Blk G σ σ1 n f' S' V' := by
  obtain ⟨h1, h2, h3, h4, h5⟩ := h
  refine ⟨fun i j hi hj w => h1 i j hi hj (by rw [← hf i hi, ← hf j hj]; exact w), fun i h0 hi => by rw [hf i hi]; exact h2 i h0 hi, fun i hi => ⟨by rw [hf i hi, hS i hi]; exact (h3 i hi).1, fun k => by rw [hf i hi, hV i hi]; exact (h3 i hi).2 k⟩, fun b hb => h4 b (fun i hi => by rw [← hf i hi]; exact hb i hi), fun i hi => by rw [hS i hi]; exact h5 i hi⟩
end BLK
/-! rows over a state -/
section VROWS
variable {F : jFm} {own : String} {cc : ByteArray} {nL k1 k2 fr mc ms lo pc : Nat} {ret : Option FieldType} {σ : jH} {lv lv' : List (Nat × Value)} {st : List Value}
def jV (F : jFm) (nL k1 k2 : Nat) (σ : jH) (pc : Nat) (lv : List (Nat × Value)) (st : List Value) : Prop := jW (jSet F σ.1) nL k1 k2 σ.2 pc lv st
theorem v_newa (C : jA F own cc nL fr mc ms lo) {t : Nat} (ht : t < 5) {atype : ArrayType} (hty : newarray.typeOf atype = j_aty t) (harr : Cond.arrayClass (j_aty t) ∈ TB) {n : Int32} {N : Nat} (hn : ¬ n < 0) (hN : n.toNatClampNeg = N) (hb : N ≤ 65536) (hf : k1 + 1 ≤ mc ∧ k2 + N ≤ ms) (k1' k2' : Nat) (e1 : k1 + 1 = k1') (e2 : k2 + N = k2') (p1 : Nat) (hp : pc + 2 = p1) (hd : decode cc pc = .ok (.newarray atype, 2))
    (kk : ∀ a, jFree (jGof F) σ a → jV F nL k1' k2' (jMade σ a (2, t, N) (fun _ => defaultValue (j_aty t))) p1 lv (.ref a :: st)) : jV F nL k1 k2 σ pc lv (.int n :: st) := by
  obtain ⟨p, l, e, R, s, m, args, below, meth, c, G, sh, Qr, Qx, mc, ms, Q⟩ := F
  obtain ⟨C1, C4⟩ := C
  subst hp C4 e1 e2
  exact j_newa C1 ht hty harr hn hN hb hf hd kk
theorem v_anew (C : jA F own cc nL fr mc ms lo) {t index : Nat} {Cn : String} (ht : 5 ≤ t ∧ t < 8) (hty : j_aty t = .object Cn) (hcl : Cond.classLink own index Cn ∈ TB) (hov : Cond.arrayOver (.object Cn) ∈ TB) {n : Int32} {N : Nat} (hn : ¬ n < 0) (hN : n.toNatClampNeg = N) (hb : N ≤ 65536) (hf : k1 + 1 ≤ mc ∧ k2 + N ≤ ms) (k1' k2' : Nat) (e1 : k1 + 1 = k1') (e2 : k2 + N = k2') (p1 : Nat) (hp : pc + 3 = p1) (hd : decode cc pc = .ok (.anewarray index, 3))
    (kk : ∀ a, jFree (jGof F) σ a → jV F nL k1' k2' (jMade σ a (4, t, N) (fun _ => .null)) p1 lv (.ref a :: st)) : jV F nL k1 k2 σ pc lv (.int n :: st) := by
  obtain ⟨p, l, e, R, s, m, args, below, meth, c, G, sh, Qr, Qx, mc, ms, Q⟩ := F
  obtain ⟨C1, C4⟩ := C
  subst hp C4 e1 e2
  exact j_anew C1 ht hty hcl hov hn hN hb hf hd kk
/-- what the tables say of a class that is made -/
def jNw (own : String) (index i N : Nat) (ty0 : Nat → FieldType) : Prop := ∃ (Cn : String) (T : u_T), vwCl[i]? = some (Cn, T, N) ∧ (∀ w ∈ u_ws Cn T N, w ∈ TB) ∧ (∀ k, k < N → parseFieldDescriptor (T k).2.2.1 = some (ty0 k)) ∧ Cond.classLink own index Cn ∈ TB ∧ Cond.instantiable Cn N ∈ TB ∧ Cond.initialized Cn ∈ TB
theorem v_newc (C : jA F own cc nL fr mc ms lo) {index i N : Nat} {ty0 : Nat → FieldType} (hw : jNw own index i N ty0) (hf : k1 + 1 ≤ mc ∧ k2 + N ≤ ms) (k1' k2' : Nat) (e1 : k1 + 1 = k1') (e2 : k2 + N = k2') (p1 : Nat) (hp : pc + 3 = p1) (hd : decode cc pc = .ok (.new index, 3))
    (kk : ∀ a, jFree (jGof F) σ a → jV F nL k1' k2' (jMade σ a (3, i, N) (fun k => defaultValue (ty0 k))) p1 lv (.ref a :: st)) : jV F nL k1 k2 σ pc lv st := by
  obtain ⟨Cn, T, hc, hin, hty, hcl, hins, hini⟩ := hw
  obtain ⟨p, l, e, R, s, m, args, below, meth, c, G, sh, Qr, Qx, mc, ms, Q⟩ := F
  obtain ⟨C1, C4⟩ := C
  subst hp C4 e1 e2
  exact j_newc C1 hc hin hty hcl hins hini hf hd kk
/-- a constructor is called -/
theorem v_callI (C : jA F own cc nL fr mc ms lo) {n b index nY fr1 mc1 ms1 lo1 : Nat} {y : MethodName} {by0 : ByteArray} {As st0 : List Value} {Qr : Option Value → jH → Prop}
    (hM : jM (jLof F) (jGof F) y by0 nY none fr1 mc1 ms1 lo1 (.ref b :: As) σ Qr jNo) (hY : jYI y by0 nY n) (hlink : Cond.methodLink own index y ∈ TB ∨ ∃ host, Cond.methodLinkNest own index y host ∈ TB) (hn : As.length = n) (hR : fr1 + 1 ≤ fr ∧ 8 + (nY + 11) + lo1 ≤ lo) (hf : k1 + mc1 ≤ mc ∧ k2 + ms1 ≤ ms) (hW : (st.map fun v => v.category).sum ≤ 8) (hst : st0 = As.reverse ++ .ref b :: st) (k1' k2' : Nat) (e1 : k1 + mc1 = k1') (e2 : k2 + ms1 = k2') (p1 : Nat) (hp : pc + 3 = p1) (hd : decode cc pc = .ok (.invokespecial index, 3))
    (kk : ∀ (r : Option Value) (σ' : jH), Qr r σ' → jV F nL k1' k2' σ' p1 lv (r.toList ++ st)) : jV F nL k1 k2 σ pc lv st0 := by
  obtain ⟨p, l, e, R, s, m, args, below, meth, c, G, sh, Qr0, Qx0, mc, ms, Q⟩ := F
  obtain ⟨C1, C4⟩ := C
  subst C4 hp e1 e2
  exact j_callI C1 hM hY hlink hn hR hf hW hst hd (fun r σ' h => kk r σ' h) (fun _ _ h => h.elim)
theorem v_obj (C : jA F own cc nL fr mc ms lo) {a index : Nat} (hlink : Cond.methodLink own index Lib.objectInit ∈ TB) (hinst : Cond.instanceMethod Lib.objectInit ∈ TB) (hcode : Cond.code Lib.objectInit ⟨#[0xb1]⟩ 1 none ∈ TB) (hR : 1 ≤ fr ∧ (st.map fun v => v.category).sum + 12 ≤ lo) (p1 : Nat) (hp : pc + 3 = p1) (hd : decode cc pc = .ok (.invokespecial index, 3)) (kk : jV F nL k1 k2 σ p1 lv st) : jV F nL k1 k2 σ pc lv (.ref a :: st) := by
  obtain ⟨p, l, e, R, s, m, args, below, meth, c, G, sh, Qr, Qx, mc, ms, Q⟩ := F
  obtain ⟨C1, C4⟩ := C
  subst hp C4
  have hts := C1.1.2.2.2.2
  intro H locs ls hR1 hL hl
  exact W.objInit C1.1.1 C1.1.2.1 C1.1.2.2.2.1 (hts _ hlink) (hts _ hinst) (hts _ hcode) rfl (by show ls.size = _; rw [C1.1.2.2.1]; exact hl.1) rfl hd hR.1 (by have h9 := hR.2; show 2 * 0 + (st.map fun v => v.category).sum + 12 ≤ lo; omega) (kk H locs ls hR1 hL hl)
theorem v_put (C : jA F own cc nL fr mc ms lo) {index i N a : Nat} {ft : FieldType} {v : Value} (k : Nat) (hf : jFlw own index i N k ft) (hn : narrow ft v = v) (hfit : fits ft v = true) (ha : σ.1 a = (3, i, N)) (p1 : Nat) (hp : pc + 3 = p1) (hd : decode cc pc = .ok (.putfield index, 3)) (kk : jV F nL k1 k2 (pV σ a k v) p1 lv st) : jV F nL k1 k2 σ pc lv (v :: .ref a :: st) := by
  obtain ⟨p, l, e, R, s, m, args, below, meth, c, G, sh, Qr, Qx, mc, ms, Q⟩ := F
  subst hp
  obtain ⟨C1, T, ty0, hc, hin, hty, hnm, hk, hfin, rfl, h | ⟨host, h⟩⟩ := hf
  · exact j_putV C.1 k hc hin hty hnm hk h hfin hn hfit ⟨Or.inr (by rw [ha]), by rw [ha]⟩ (fun g => by rw [ha] at g; cases g) hd kk
  · exact j_putVN C.1 k hc hin hty hnm hk h hfin hn hfit ⟨Or.inr (by rw [ha]), by rw [ha]⟩ (fun g => by rw [ha] at g; cases g) hd kk
/-- a final field that an instruction of a constructor names -/
def jFlf (own : String) (index i N k : Nat) (ft : FieldType) : Prop := ∃ (T : u_T) (ty0 : Nat → FieldType), vwCl[i]? = some (own, T, N) ∧ (∀ w ∈ u_ws own T N, w ∈ TB) ∧ (∀ k, k < N → parseFieldDescriptor (T k).2.2.1 = some (ty0 k)) ∧ (∀ a, a < N → ∀ b, b < N → a ≠ b → (T a).2.1 ≠ (T b).2.1) ∧ k < N ∧ (T k).2.2.2 = true ∧ (T k).1 = own ∧ ty0 k = ft ∧ Cond.fieldLink own index (T k).1 (T k).2.1 (T k).2.2.1 ∈ TB
def jNm (F : jFm) : Prop := match F with
  | (_, _, _, _, _, _, _, _, meth, _, _, _, _, _, _, _, _) => meth.name = "<init>"
theorem v_putF (C : jA F own cc nL fr mc ms lo) (hN : jNm F) {index i N a : Nat} {ft : FieldType} {v : Value} (k : Nat) (hf : jFlf own index i N k ft) (hn : narrow ft v = v) (hfit : fits ft v = true) (ha : σ.1 a = (3, i, N)) (p1 : Nat) (hp : pc + 3 = p1) (hd : decode cc pc = .ok (.putfield index, 3)) (kk : jV F nL k1 k2 (pV σ a k v) p1 lv st) : jV F nL k1 k2 σ pc lv (v :: .ref a :: st) := by
  obtain ⟨p, l, e, R, s, m, args, below, meth, c, G, sh, Qr, Qx, mc, ms, Q⟩ := F
  subst hp
  obtain ⟨T, ty0, hc, hin, hty, hnm, hk, hfin, hdecl, rfl, h⟩ := hf
  exact j_putF C.1 hN k hc hin hty hnm hk h hfin hdecl hn hfit ⟨by rw [ha], by rw [ha]⟩ hd kk
theorem v_getV (C : jA F own cc nL fr mc ms lo) {index i N a : Nat} {v : Value} (k : Nat) (hf : jFld own index i N k) (ha : σ.1 a = (3, i, N)) (hv : σ.2 a k = v) (p1 : Nat) (hp : pc + 3 = p1) (hd : decode cc pc = .ok (.getfield index, 3)) (kk : jV F nL k1 k2 σ p1 lv (v :: st)) : jV F nL k1 k2 σ pc lv (.ref a :: st) := by
  obtain ⟨p, l, e, R, s, m, args, below, meth, c, G, sh, Qr, Qx, mc, ms, Q⟩ := F
  subst hp hv
  obtain ⟨C1, T, hc, hin, hk, h | ⟨host, h⟩⟩ := hf
  · exact j_getV C.1 k hc hin hk h ⟨Or.inr (by rw [ha]), by rw [ha]⟩ hd kk
  · exact j_getVN C.1 k hc hin hk h ⟨Or.inr (by rw [ha]), by rw [ha]⟩ hd kk
theorem v_pro {a i N : Nat} (h : σ.1 a = (3, i, N)) (h2 : ∀ j, j < N → j_ok (jPro σ a (1, i, N)).1 (j_fT i j) (σ.2 a j)) (kk : jV F nL k1 k2 (jPro σ a (1, i, N)) pc lv st) : jV F nL k1 k2 σ pc lv st := by
  obtain ⟨p, l, e, R, s, m, args, below, meth, c, G, sh, Qr, Qx, mc, ms, Q⟩ := F
  exact jd_pro ⟨h, h2⟩ kk
theorem v_pro4 {a t N : Nat} (h : σ.1 a = (4, t, N)) (h2 : ∀ j, j < N → j_ok (jPro σ a (2, t, N)).1 (j_eT t) (σ.2 a j)) (kk : jV F nL k1 k2 (jPro σ a (2, t, N)) pc lv st) : jV F nL k1 k2 σ pc lv st := by
  obtain ⟨p, l, e, R, s, m, args, below, meth, c, G, sh, Qr, Qx, mc, ms, Q⟩ := F
  exact jd_pro4 ⟨h, h2⟩ kk
end VROWS
theorem r_body3 {l : Launch} {G : jG} {y : MethodName} {by0 : ByteArray} {nY fr mc ms lo : Nat} {rt : Option FieldType} {av : List Value} {σ : jH} {Qr : Option Value → jH → Prop} {Qx : String → jH → Prop} (hy : plainName y.cls = true) (hy1 : y.name = "<init>") (hn : (lg_sl av).length ≤ nY)
    (body : ∀ F : jFm, jB F y.cls by0 nY rt fr mc ms lo → jLof F = l → jGof F = G → jNm F → (∀ r σ', jEndQ F r σ' = Qr r σ') → jV F nY 0 0 σ 0 (lv_args 0 av) []) : jM l G y by0 nY rt fr mc ms lo av σ Qr Qx := by
  refine jM_of hy (fun p e s m args below meth c hC hr hex hnm => ?_) hn
  exact body (p, l, e, jrm fr mc ms lo, s, m, args, below, meth, c, G, σ.1, Qr, Qx, mc, ms, jEnd below G Qr Qx args s mc ms) ⟨⟨hC, rfl⟩, hr, hex, rfl, rfl, rfl⟩ rfl rfl (hnm.trans hy1) (fun _ _ => rfl)
theorem v_vret {F : jFm} {own : String} {cc : ByteArray} {nL k1 k2 fr mc ms lo pc : Nat} {σ : jH} {lv : List (Nat × Value)} (C : jB F own cc nL none fr mc ms lo) (h1 : k1 ≤ mc) (h2 : k2 ≤ ms) (hd : decode cc pc = .ok (.return_, 1)) (hq : jEndQ F none σ) : jV F nL k1 k2 σ pc lv [] :=
  r_vret (jB_set C σ.1) rfl h1 h2 hd (by rw [jOut_set]; exact hq)
section AASTM
variable {p : Program} {l : Launch} {e : Env} {R : Room} {s : State} {m : MethodId} {args : Array Value} {below : List Frame} {meth : Method} {c : Code} {Q : State → Prop} {G : jG} {own : String} {cc : ByteArray} {nL k1 k2 : Nat} {σ : jH} {pc : Nat} {lv : List (Nat × Value)} {st : List Value}
/-- an object is put into a row that is being made -/
theorem j_aastM (C : jC p l s m args meth c G own cc nL) {a b t n ci : Nat} {r : vw_C} {i : Int32} (hc : vwCl[ci]? = some r) (hty : j_aty t = .object r.1) (hb : σ.1 b = (1, ci, r.2.2)) (ha : σ.1 a = (4, t, n)) (hin : vp_in i n) (hdg : decode cc pc = .ok (.aastore, 1)) (kk : jd p l e R s m args below meth c G nL Q k1 k2 (pV σ a i.toNatClampNeg (.ref b)) (pc + 1) lv st) : jd p l e R s m args below meth c G nL Q k1 k2 σ pc lv (.ref b :: .int i :: .ref a :: st) := by
  intro H0 locs0 ls0 hR0 hL0 hl0
  have hlt : i.toNatClampNeg < n := Nat.not_le.mp fun q => hin (Or.inr q)
  have h0 : ¬ i < 0 := fun q => hin (Or.inl q)
  obtain ⟨h8, hcell⟩ := j_at hR0 (Or.inr ha)
  obtain ⟨r9, h1, -, cellV, g1, g2, g3, -⟩ := (hR0.1.2 b).2.1 (by rw [hb]; simp)
  rw [hb] at h1 g2
  have hcls := (C.2.1.1 ci r hc).2
  have ht9 : (jtys G)[t]? = some (G.2.1 t, .object r.1) := by rw [← hty]; exact jtys_at G h8
  obtain ⟨kA, comp, m1, m2, m3, -⟩ := (C.2.1.2 t _ ht9).2
  have hcomp : comp = G.1.1 ci := Option.some.inj (m3.symm.trans hcls.1)
  subst hcomp
  obtain ⟨kC, hkC, -⟩ := hcls.2
  refine W.aast C.1.1 C.1.2.1 hcell (fun q h => by cases h) (fun h => by cases h) m1 m2 rfl hkC ⟨h0, by rw [arrV_size]; exact hlt⟩ g1 (fun q h => by rw [g3] at h; cases h) (by rw [g2]; exact hkC) (by rw [g2]; exact va_assign hcls) rfl rfl hdg fun H1 e1 z oq => ?_
  refine kk H1 _ ls0 (jR_apush hR0 (Or.inr ha) (fun g => by rw [ha] at g; cases g) e1 z oq) (fun q hq => ?_) hl0
  rcases List.mem_append.mp hq with h | h
  · exact hL0 q h
  · rw [List.mem_singleton.mp h]
    exact (hR0.1.2 a).1 (by rw [ha]; simp)
end AASTM
theorem v_aastM {F : jFm} {own : String} {cc : ByteArray} {nL k1 k2 fr mc ms lo pc : Nat} {σ : jH} {lv : List (Nat × Value)} {st : List Value} (C : jA F own cc nL fr mc ms lo) {a b t n ci i : Nat} {r : vw_C} (hc : vwCl[ci]? = some r) (hty : j_aty t = .object r.1) (hb : σ.1 b = (1, ci, r.2.2)) (ha : σ.1 a = (4, t, n)) (hi : i < n) (hi2 : i < 1000) (p1 : Nat) (hp : pc + 1 = p1) (hd : decode cc pc = .ok (.aastore, 1)) (kk : jV F nL k1 k2 (pV σ a i (.ref b)) p1 lv st) : jV F nL k1 k2 σ pc lv (.ref b :: .int (oN i) :: .ref a :: st) := by
  obtain ⟨p, l, e, R, s, m, args, below, meth, c, G, sh, Qr, Qx, mc, ms, Q⟩ := F
  subst hp
  have e9 : (oN i).toNatClampNeg = i := oN_ix (by omega)
  refine j_aastM C.1 hc hty hb ha ((oN_jin (by omega)).mpr hi) hd ?_
  rw [e9]
  exact kk
