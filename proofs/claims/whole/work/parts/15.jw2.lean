/-! ===== further rows over part 14 ===== -/
theorem ch_fits {x : Int32} (h : jch x) : fits .char (.int x) = true := by
  unfold jch at h
  generalize x.toUInt32.toUInt16 = w at h
  subst h
  have hw : w.toNat < 65536 := w.toNat_lt
  have e : (w.toUInt32.toInt32).toInt = (w.toNat : Int) := by
    show w.toUInt32.toBitVec.toInt = _
    have hz : w.toUInt32.toBitVec.toNat = w.toNat := by simp
    rw [BitVec.toInt_eq_toNat_of_lt (by rw [hz]; omega), hz]
  simp only [fits, Bool.and_eq_true, decide_eq_true_eq, Int32.le_iff_toInt_le, e]
  refine ⟨?_, ?_⟩
  · show (0 : Int) ≤ _
    omega
  · show (_ : Int) ≤ 65535
    omega
/-- n places of the row src are copied to the row dst -/
def iushr (x y : Int32) : Int32 := (x.toUInt32 >>> (y.toUInt32 &&& Int32.toUInt32 31)).toInt32
def jMx (own : String) (index : Nat) (y : MethodName) (by0 : ByteArray) (n : Nat) : Prop := Cond.methodLink own index y ∈ TB ∧ Cond.static y ∈ TB ∧ Cond.initialized "java/lang/Math" ∈ TB ∧ Cond.code y by0 n (some .int) ∈ TB
def jmax (x y : Int32) : Int32 := if x < y then y else x
def jmin (x y : Int32) : Int32 := if y < x then y else x
def jabs (x : Int32) : Int32 := if 0 ≤ x then x else 0 - x
def kCp (κ : jKt) (src dst n : Nat) : jKt := fun b k => if b = dst ∧ k < n then κ src k else κ b k
section JACP
variable {p : Program} {l : Launch} {e : Env} {R : Room} {s : State} {m : MethodId} {args : Array Value} {below : List Frame} {meth : Method} {c : Code} {Q : State → Prop} {G : jG} {own : String} {cc : ByteArray} {nL k1 k2 : Nat} {sh : jSh} {κ : jKt} {pc : Nat} {lv : List (Nat × Value)} {st : List Value}
theorem j_acp (C : jC p l s m args meth c G own cc nL) {index a0 a1 t n : Nat} {nn : Int32} (hlink : Cond.methodLink own index arraycopyName ∈ TB) (hnat : Cond.native arraycopyName ∈ TB) (hstat : Cond.static arraycopyName ∈ TB) (hini : Cond.initialized "java/lang/System" ∈ TB)
    (ht : t = 0 ∨ t = 1) (h0 : sh a0 = (2, t, n)) (h1 : sh a1 = (2, t, n)) (h3 : ¬ nn < 0) (hn : nn.toNatClampNeg = n) (hR : 1 ≤ R.frames ∧ (st.map fun v => v.category).sum + (nativeFrameWords "java/lang/System" "arraycopy" 5 + 11) ≤ R.locals) (hdg : decode cc pc = .ok (.invokestatic index, 3))
    (kk : jd p l e R s m args below meth c G nL Q k1 k2 (sh, kCp κ a0 a1 n) (pc + 3) lv st) : jd p l e R s m args below meth c G nL Q k1 k2 (sh, κ) pc lv (.int nn :: .int 0 :: .ref a1 :: .int 0 :: .ref a0 :: st) := by
  intro H0 locs0 ls0 hR0 hL0 hl0 T0 hT0 X0
  have hts := C.1.2.2.2.2
  obtain ⟨h8, hc0⟩ := j_at hR0 (Or.inl h0)
  obtain ⟨-, hc1⟩ := j_at hR0 (Or.inl h1)
  obtain ⟨-, k0, hk0, cm0, hkk0⟩ := (C.2.1.2 t _ (jtys_at G h8)).1 n (κ a0)
  obtain ⟨-, k9, hk9, cm9, hkk9⟩ := (C.2.1.2 t _ (jtys_at G h8)).1 n (κ a1)
  have hz0 : (0 : Int32).toNatClampNeg = 0 := rfl
  have hnI : nn.toInt = (n : Int) := by
    have hge : (0 : Int) ≤ nn.toInt := by
      have := Int32.not_lt.mp h3
      simpa using Int32.le_iff_toInt_le.mp this
    have hq : nn.toInt.toNat = n := hn
    omega
  have hval : ∀ i, i < n → (arrV (G.2.1 t) n (κ a0)).slots.getD (0 + i) .null = κ a0 i := fun i hi => by
    rw [Nat.zero_add, Array.getD_eq_getD_getElem?, arrV_read _ _ hi]
    rfl
  have hkind : ∀ i, i < n → ∃ x, κ a0 i = .int x ∧ fits (j_aty t) (.int x) = true := fun i hi => by
    have hv := (hR0.2 a0 i).2 (by show (sh a0).1 = 2; rw [h0]) (by show i < (sh a0).2.2; rw [h0]; exact hi)
    rw [show (sh, κ).1 a0 = (2, t, n) from h0] at hv
    rcases ht with rfl | rfl
    · exact ⟨_, j_int hv rfl, rfl⟩
    · obtain ⟨g1, g2⟩ := j_chr hv rfl
      refine ⟨_, g1, ch_fits ?_⟩
      injection g2
  obtain ⟨vm9, X9, step⟩ := X0.arraycopy C.1.1 C.1.2.2.2.1 (hts _ hlink) (hts _ hnat) (hts _ hstat) (hts _ hini) (src := a0) (dst := a1) (cs := arrV (G.2.1 t) n (κ a0)) (cd := arrV (G.2.1 t) n (κ a1)) (srcPos := 0) (destPos := 0) (n := nn) (by rw [hT0]; exact hc0) (by rw [hT0]; exact hc1)
    (fun _ h => by cases h) (fun _ h => by cases h) (fun h => by cases h) (fun h => by cases h) hk0 hk9 hkk0 hkk9 (by rcases ht with rfl | rfl <;> rfl) (by decide) (by decide) h3
    (by rw [hnI, arrV_size]; show ¬ (0 : Int) + n > n; omega) (by rw [hnI, arrV_size]; show ¬ (0 : Int) + n > n; omega)
    (fun vm1 _ i hi => by
      rw [hn] at hi
      rw [hz0, hval i hi]
      obtain ⟨x, e1, e2⟩ := hkind i hi
      rw [e1]
      exact ⟨e2, trivial⟩)
    (g := F0 m pc ls0 (.int nn :: .int 0 :: .ref a1 :: .int 0 :: .ref a0 :: st)) rfl (by rw [C.1.2.2.1]; exact hl0.1) (rest := st) rfl (by rw [C.1.2.1]; exact hdg) hR.1 (by show 2 * 0 + _ + _ ≤ _; omega)
  have ecp : copied (arrV (G.2.1 t) n (κ a0)) (arrV (G.2.1 t) n (κ a1)) 0 0 nn = arrV (G.2.1 t) n (kCp κ a0 a1 n a1) := by
    have h9 := va_copied (fun z : Value => z) (G.2.1 t) (G.2.1 t) (n0 := n) (n1 := n) (sp := 0) (dp := 0) (n := n) (κ a0) (κ a1) (by omega)
    show (arrV (G.2.1 t) n (κ a1)).storeRun (0 : Int32).toNatClampNeg ((arrV (G.2.1 t) n (κ a0)).stretch (0 : Int32).toNatClampNeg nn.toNatClampNeg) = _
    rw [hn, hz0]
    refine h9.trans ?_
    congr 1
    funext k
    simp only [va_cpy, kCp, true_and]
    by_cases hk : k < n
    · rw [if_pos ⟨by omega, by omega⟩, if_pos hk]
      congr 1
      omega
    · rw [if_neg (by omega), if_neg hk]
  rw [ecp] at X9 step
  have hlt : a1 < H0.size := (Array.getElem?_eq_some_iff.mp hc1).1
  have hheap : ((T0.setVm vm9).setCell a1 (arrV (G.2.1 t) n (kCp κ a0 a1 n a1))).heap = H0.setIfInBounds a1 (arrV (G.2.1 t) n (kCp κ a0 a1 n a1)) := by rw [← hT0]; rfl
  have oq : ∀ q : Nat, q ≠ a1 → (H0.setIfInBounds a1 (arrV (G.2.1 t) n (kCp κ a0 a1 n a1)))[q]? = H0[q]? := fun q hq => by simp [Array.getElem?_setIfInBounds, Ne.symm hq]
  have hother : ∀ b, b ≠ a1 → kCp κ a0 a1 n b = κ b := fun b hb => by funext k; simp [kCp, hb]
  have hRn : jR G (H0.setIfInBounds a1 (arrV (G.2.1 t) n (kCp κ a0 a1 n a1))) (sh, kCp κ a0 a1 n) := by
    obtain ⟨⟨⟨q1, q2⟩, q3⟩, q4⟩ := hR0
    have hb1 : jbase G ≤ a1 := (q3 a1).1 (by show (sh a1).1 ≠ 0; rw [h1]; simp)
    refine ⟨⟨⟨fun q hq => ?_, by simpa using q2⟩, fun b => ⟨(q3 b).1, fun g => ?_, fun g => ?_, fun g => ?_⟩⟩, fun b j => ⟨fun g1 g2 => ?_, fun g1 g2 => ?_⟩⟩
    · rw [oq q (by omega)]; exact q1 q hq
    · have hb : b ≠ a1 := fun e => by subst e; rw [show (sh, kCp κ a0 b n).1 b = (2, t, n) from h1] at g; simp at g
      obtain ⟨r, r1, r2, r3⟩ := (q3 b).2.1 g
      refine ⟨r, r1, r2, ?_⟩
      rw [show (sh, kCp κ a0 a1 n).2 b = κ b from hother b hb]
      exact r3.kept (oq b hb)
    · by_cases hb : b = a1
      · subst hb
        refine ⟨((q3 b).2.2.1 g).1, ?_⟩
        rw [show (sh, kCp κ a0 b n).1 b = (2, t, n) from h1]
        simp [Array.getElem?_setIfInBounds, hlt]
      · rw [show (sh, kCp κ a0 a1 n).2 b = κ b from hother b hb, oq b hb]
        exact (q3 b).2.2.1 g
    · have hb : b ≠ a1 := fun e => by subst e; rw [show (sh, kCp κ a0 b n).1 b = (2, t, n) from h1] at g; simp at g
      rw [show (sh, kCp κ a0 a1 n).2 b = κ b from hother b hb]
      obtain ⟨q, L, n9, bs, gg, g1, g2, g3, g4, g5, g6, g7, g8, g9, g10, g11, g12, g13⟩ := (q3 b).2.2.2 g
      have hq : q ≠ a1 := fun e => by rw [e, show (sh, κ).1 a1 = (2, t, n) from h1] at g2; simp at g2
      exact ⟨q, L, n9, bs, gg, g1, g2, g3, g4, g5, g6.kept (oq b hb), g7, g8, g9, g10, by rw [oq q hq]; exact g11, g12, g13⟩
    · have hb : b ≠ a1 := fun e => by subst e; rw [show (sh, kCp κ a0 b n).1 b = (2, t, n) from h1] at g1; simp at g1
      rw [show (sh, kCp κ a0 a1 n).2 b j = κ b j from congrFun (hother b hb) j]
      exact (q4 b j).1 g1 g2
    · by_cases hb : b = a1
      · subst hb
        have hj : j < n := by rw [show (sh, kCp κ a0 b n).1 b = (2, t, n) from h1] at g2; exact g2
        rw [show (sh, kCp κ a0 b n).2 b j = κ a0 j from if_pos ⟨rfl, hj⟩, show (sh, kCp κ a0 b n).1 b = (2, t, n) from h1]
        have h9 := (q4 a0 j).2 (by show (sh a0).1 = 2; rw [h0]) (by show j < (sh a0).2.2; rw [h0]; exact hj)
        rw [show (sh, κ).1 a0 = (2, t, n) from h0] at h9
        exact h9
      · rw [show (sh, kCp κ a0 a1 n).2 b j = κ b j from congrFun (hother b hb) j]
        exact (q4 b j).2 g1 g2
  obtain ⟨t9, a9, b9⟩ := kk _ _ ls0 hRn (fun z hz => by
    rcases List.mem_append.mp hz with h | h
    · exact hL0 z h
    · obtain ⟨z9, -, hz9⟩ := List.mem_map.mp h
      rw [← hz9]
      exact (hR0.1.2 a1).1 (by show (sh a1).1 ≠ 0; rw [h1]; simp)) hl0 _ hheap X9
  exact ⟨t9, step t9 a9, b9⟩
theorem j_aast (C : jC p l s m args meth c G own cc nL) {a b t n ci : Nat} {r : vw_C} {i : Int32} (hc : vwCl[ci]? = some r) (hty : j_aty t = .object r.1) (he : j_eT t = (1, ci, r.2.2)) (hb : sh b = (1, ci, r.2.2)) (ha : sh a = (2, t, n)) (hin : vp_in i n) (hdg : decode cc pc = .ok (.aastore, 1)) (kk : jd p l e R s m args below meth c G nL Q k1 k2 (pV (sh, κ) a i.toNatClampNeg (.ref b)) (pc + 1) lv st) : jd p l e R s m args below meth c G nL Q k1 k2 (sh, κ) pc lv (.ref b :: .int i :: .ref a :: st) := by
  intro H0 locs0 ls0 hR0 hL0 hl0
  have hlt : i.toNatClampNeg < n := Nat.not_le.mp fun q => hin (Or.inr q)
  have h0 : ¬ i < 0 := fun q => hin (Or.inl q)
  obtain ⟨h8, hcell⟩ := j_at hR0 (Or.inl ha)
  have hbb : (sh, κ).1 b = (1, ci, r.2.2) := hb
  obtain ⟨r9, h1, -, cellV, g1, g2, g3, -⟩ := (hR0.1.2 b).2.1 (by rw [hbb]; simp)
  rw [hbb] at h1 g2
  have hcls := (C.2.1.1 ci r hc).2
  have ht9 : (jtys G)[t]? = some (G.2.1 t, .object r.1) := by rw [← hty]; exact jtys_at G h8
  obtain ⟨kA, comp, m1, m2, m3, -⟩ := (C.2.1.2 t _ ht9).2
  have hcomp : comp = G.1.1 ci := Option.some.inj (m3.symm.trans hcls.1)
  subst hcomp
  obtain ⟨kC, hkC, -⟩ := hcls.2
  refine W.aast C.1.1 C.1.2.1 hcell (fun q h => by cases h) (fun h => by cases h) m1 m2 rfl hkC ⟨h0, by rw [arrV_size]; exact hlt⟩ g1 (fun q h => by rw [g3] at h; cases h) (by rw [g2]; exact hkC) (by rw [g2]; exact va_assign hcls) rfl rfl hdg fun H1 e1 z oq => ?_
  refine kk H1 _ ls0 (jR_apush hR0 (Or.inl ha) (fun _ => by rw [he]; exact j_okR rfl hb) e1 z oq) (fun q hq => ?_) hl0
  rcases List.mem_append.mp hq with h | h
  · exact hL0 q h
  · rw [List.mem_singleton.mp h]
    exact (hR0.1.2 a).1 (by show (sh a).1 ≠ 0; rw [ha]; simp)
end JACP
theorem jz_fits {x : Int32} (h : jz x) : fits .boolean (.int x) = true := by
  rcases h with h | h <;> subst h <;> rfl
/-! results -/
def bd2 {α β γ : Type} (x : Option (α × β)) (f : α → β → Option γ) : Option γ := match x with
  | none => none
  | some (a, b) => f a b
theorem bd2_some {α β γ : Type} {x : Option (α × β)} {f : α → β → Option γ} {r : γ} (h : bd2 x f = some r) : ∃ a b, x = some (a, b) ∧ f a b = some r := by
  unfold bd2 at h
  match x, h with
  | some (a, b), h => exact ⟨a, b, rfl, h⟩
def bdo {γ : Type} (x : Option (Option Nat)) (fn : Option γ) (fs : Nat → Option γ) : Option γ := match x with
  | none => none
  | some none => fn
  | some (some a) => fs a
theorem bdo_some {γ : Type} {x : Option (Option Nat)} {fn : Option γ} {fs : Nat → Option γ} {r : γ} (h : bdo x fn fs = some r) : (x = some none ∧ fn = some r) ∨ ∃ a, x = some (some a) ∧ fs a = some r := by
  unfold bdo at h
  match x, h with
  | some none, h => exact Or.inl ⟨rfl, h⟩
  | some (some a), h => exact Or.inr ⟨a, rfl, h⟩
def bdx {α γ : Type} (x : Option (Except String α)) (fe : String → Option γ) (f : α → Option γ) : Option γ := match x with
  | none => none
  | some (.error E) => fe E
  | some (.ok a) => f a
theorem bdx_some {α γ : Type} {x : Option (Except String α)} {fe : String → Option γ} {f : α → Option γ} {r : γ} (h : bdx x fe f = some r) : (∃ a, x = some (.ok a) ∧ f a = some r) ∨ ∃ E, x = some (.error E) ∧ fe E = some r := by
  unfold bdx at h
  match x, h with
  | some (.error E), h => exact Or.inr ⟨E, rfl, h⟩
  | some (.ok a), h => exact Or.inl ⟨a, rfl, h⟩
def bdx2 {α β γ : Type} (x : Option (Except String α × β)) (fe : String → β → Option γ) (f : α → β → Option γ) : Option γ := match x with
  | none => none
  | some (.error E, b) => fe E b
  | some (.ok a, b) => f a b
theorem bdx2_some {α β γ : Type} {x : Option (Except String α × β)} {fe : String → β → Option γ} {f : α → β → Option γ} {r : γ} (h : bdx2 x fe f = some r) : (∃ a b, x = some (.ok a, b) ∧ f a b = some r) ∨ ∃ E b, x = some (.error E, b) ∧ fe E b = some r := by
  unfold bdx2 at h
  match x, h with
  | some (.error E, b), h => exact Or.inr ⟨E, b, rfl, h⟩
  | some (.ok a, b), h => exact Or.inl ⟨a, b, rfl, h⟩
/-- a reference of the shape T is answered -/
def jIsT (a : Nat) (T : Nat × Nat × Nat) (sh : jSh) (κ' : jKt) : Option Value → jH → Prop := fun r σ => r = some (.ref a) ∧ σ = (sh, κ') ∧ sh a = T
def jOutR (F : jFm) (T : Nat × Nat × Nat) (a : Nat) (κ : jKt) : Prop := jSof F a = T → jOut F (some (.ref a)) κ
def jOutN (F : jFm) (T : Nat × Nat × Nat) (a : Option Nat) (κ : jKt) : Prop := match a with
  | none => jOut F (some .null) κ
  | some a => jSof F a = T → jOut F (some (.ref a)) κ
def jFinG {α : Type} (F : jFm) (g : α → jKt → Prop) (r : Except String α) (κ : jKt) : Prop := match r with
  | .ok a => g a κ
  | .error E => jThr F E κ
theorem sw_ne {x c : Int32} (h : ¬ x = c) : x.toInt ≠ c.toInt := fun e => h (Int32.toInt_inj.mp e)
section JW2
variable {F : jFm} {own : String} {cc : ByteArray} {nL k1 k2 fr mc ms lo pc : Nat} {ret : Option FieldType} {κ : jKt} {lv lv' : List (Nat × Value)} {st : List Value}
theorem r_wd {k1' k2' : Nat} (h1 : k1 ≤ k1') (h2 : k2 ≤ k2') (kk : jW F nL k1' k2' κ pc lv st) : jW F nL k1 k2 κ pc lv st := by
  obtain ⟨p, l, e, R, s, m, args, below, meth, c, G, sh, Qr, Qx, mc, ms, Q⟩ := F; exact jd_widen h1 h2 kk
theorem r_tableAt (C : jA F own cc nL fr mc ms lo) {dflt a b : Int} {offs : Array Int} {len : Nat} {x x0 : Int32} {off : Int} (tgt : Nat) (hx : x = x0) (hd : decode cc pc = .ok (.tableswitch dflt a b offs, len)) (h1 : ¬ x0.toInt < a) (h2 : ¬ b < x0.toInt) (ho : offs[(x0.toInt - a).toNat]? = some off) (ht : (pc : Int) + off = (tgt : Int)) (kk : jW F nL k1 k2 κ tgt lv st) : jW F nL k1 k2 κ pc lv (.int x :: st) := by
  subst hx; exact r_tableIn C tgt hd h1 h2 ho ht kk
theorem r_dup_x1 (C : jA F own cc nL fr mc ms lo) {v w : Value} (hv : v.category = 1) (hw : w.category = 1) (p1 : Nat) (hp : pc + 1 = p1) (hd : decode cc pc = .ok (.dup_x1, 1)) (kk : jW F nL k1 k2 κ p1 lv (v :: w :: v :: st)) : jW F nL k1 k2 κ pc lv (v :: w :: st) := by
  obtain ⟨p, l, e, R, s, m, args, below, meth, c, G, sh, Qr, Qx, mc, ms, Q⟩ := F; subst hp; exact fun H locs ls hR hL hl => lv_dup_x1 C.1.1.1 C.1.1.2.1 hd hv hw (kk H locs ls hR hL hl)
theorem r_acp (C : jA F own cc nL fr mc ms lo) {index a0 a1 t n : Nat} {nn : Int32} {κ' : jKt} (hac : Cond.methodLink own index arraycopyName ∈ TB ∧ Cond.native arraycopyName ∈ TB ∧ Cond.static arraycopyName ∈ TB ∧ Cond.initialized "java/lang/System" ∈ TB) (ht : t = 0 ∨ t = 1) (h0 : jSof F a0 = (2, t, n)) (h1 : jSof F a1 = (2, t, n)) (h3 : ¬ nn < 0) (hn : nn.toNatClampNeg = n) (hR : 1 ≤ fr ∧ (st.map fun v => v.category).sum + (nativeFrameWords "java/lang/System" "arraycopy" 5 + 11) ≤ lo) (hκ : κ' = kCp κ a0 a1 n) (p1 : Nat) (hp : pc + 3 = p1) (hd : decode cc pc = .ok (.invokestatic index, 3)) (kk : jW F nL k1 k2 κ' p1 lv st) : jW F nL k1 k2 κ pc lv (.int nn :: .int 0 :: .ref a1 :: .int 0 :: .ref a0 :: st) := by
  obtain ⟨p, l, e, R, s, m, args, below, meth, c, G, sh, Qr, Qx, mc, ms, Q⟩ := F
  subst hκ hp
  obtain ⟨C1, C4⟩ := C
  subst C4
  exact j_acp C1 hac.1 hac.2.1 hac.2.2.1 hac.2.2.2 ht h0 h1 h3 hn hR hd kk
theorem r_cVi (C : jA F own cc nL fr mc ms lo) {n b i index nY fr1 mc1 ms1 lo1 : Nat} {T : u_T} {N : Nat} {y : MethodName} {by0 : ByteArray} {rt : Option FieldType} {As st0 : List Value} {κ' : jKt} {x : Int32} (hM : jM (jLof F) (jGof F) y by0 nY rt fr1 mc1 ms1 lo1 (.ref b :: As) (jSof F, κ) (jIs (some (.int x)) (jSof F, κ')) jNo) (hY : jYV y by0 nY rt n) (hlink : Cond.methodLink own index y ∈ TB) (hc : vwCl[i]? = some (y.cls, T, N)) (hb : jSof F b = (1, i, N)) (hn : As.length = n) (hR : fr1 + 1 ≤ fr ∧ 8 + (nY + 11) + lo1 ≤ lo) (hf : k1 + mc1 ≤ mc ∧ k2 + ms1 ≤ ms) (hW : (st.map fun v => v.category).sum ≤ 8) (hst : st0 = As.reverse ++ .ref b :: st) (k1' k2' : Nat) (e1 : k1 + mc1 = k1') (e2 : k2 + ms1 = k2') (p1 : Nat) (hp : pc + 3 = p1) (hd : decode cc pc = .ok (.invokevirtual index, 3)) (kk : jW F nL k1' k2' κ' p1 lv (.int x :: st)) : jW F nL k1 k2 κ pc lv st0 := by
  subst e1 e2; exact r_cV C hM hY hlink hc hb hn hR hf hW hst p1 hp hd kk
theorem r_cVl (C : jA F own cc nL fr mc ms lo) {n b i index nY fr1 mc1 ms1 lo1 : Nat} {T : u_T} {N : Nat} {y : MethodName} {by0 : ByteArray} {rt : Option FieldType} {As st0 : List Value} {κ' : jKt} {x : Int64} (hM : jM (jLof F) (jGof F) y by0 nY rt fr1 mc1 ms1 lo1 (.ref b :: As) (jSof F, κ) (jIs (some (.long x)) (jSof F, κ')) jNo) (hY : jYV y by0 nY rt n) (hlink : Cond.methodLink own index y ∈ TB) (hc : vwCl[i]? = some (y.cls, T, N)) (hb : jSof F b = (1, i, N)) (hn : As.length = n) (hR : fr1 + 1 ≤ fr ∧ 8 + (nY + 11) + lo1 ≤ lo) (hf : k1 + mc1 ≤ mc ∧ k2 + ms1 ≤ ms) (hW : (st.map fun v => v.category).sum ≤ 8) (hst : st0 = As.reverse ++ .ref b :: st) (k1' k2' : Nat) (e1 : k1 + mc1 = k1') (e2 : k2 + ms1 = k2') (p1 : Nat) (hp : pc + 3 = p1) (hd : decode cc pc = .ok (.invokevirtual index, 3)) (kk : jW F nL k1' k2' κ' p1 lv (.long x :: st)) : jW F nL k1 k2 κ pc lv st0 := by
  subst e1 e2; exact r_cV C hM hY hlink hc hb hn hR hf hW hst p1 hp hd kk
theorem r_cVd (C : jA F own cc nL fr mc ms lo) {n b i index nY fr1 mc1 ms1 lo1 : Nat} {T : u_T} {N : Nat} {y : MethodName} {by0 : ByteArray} {rt : Option FieldType} {As st0 : List Value} {κ' : jKt} {x : UInt64} (hM : jM (jLof F) (jGof F) y by0 nY rt fr1 mc1 ms1 lo1 (.ref b :: As) (jSof F, κ) (jIs (some (.double x)) (jSof F, κ')) jNo) (hY : jYV y by0 nY rt n) (hlink : Cond.methodLink own index y ∈ TB) (hc : vwCl[i]? = some (y.cls, T, N)) (hb : jSof F b = (1, i, N)) (hn : As.length = n) (hR : fr1 + 1 ≤ fr ∧ 8 + (nY + 11) + lo1 ≤ lo) (hf : k1 + mc1 ≤ mc ∧ k2 + ms1 ≤ ms) (hW : (st.map fun v => v.category).sum ≤ 8) (hst : st0 = As.reverse ++ .ref b :: st) (k1' k2' : Nat) (e1 : k1 + mc1 = k1') (e2 : k2 + ms1 = k2') (p1 : Nat) (hp : pc + 3 = p1) (hd : decode cc pc = .ok (.invokevirtual index, 3)) (kk : jW F nL k1' k2' κ' p1 lv (.double x :: st)) : jW F nL k1 k2 κ pc lv st0 := by
  subst e1 e2; exact r_cV C hM hY hlink hc hb hn hR hf hW hst p1 hp hd kk
theorem r_cVf (C : jA F own cc nL fr mc ms lo) {n b i index nY fr1 mc1 ms1 lo1 : Nat} {T : u_T} {N : Nat} {y : MethodName} {by0 : ByteArray} {rt : Option FieldType} {As st0 : List Value} {κ' : jKt} {x : UInt32} (hM : jM (jLof F) (jGof F) y by0 nY rt fr1 mc1 ms1 lo1 (.ref b :: As) (jSof F, κ) (jIs (some (.float x)) (jSof F, κ')) jNo) (hY : jYV y by0 nY rt n) (hlink : Cond.methodLink own index y ∈ TB) (hc : vwCl[i]? = some (y.cls, T, N)) (hb : jSof F b = (1, i, N)) (hn : As.length = n) (hR : fr1 + 1 ≤ fr ∧ 8 + (nY + 11) + lo1 ≤ lo) (hf : k1 + mc1 ≤ mc ∧ k2 + ms1 ≤ ms) (hW : (st.map fun v => v.category).sum ≤ 8) (hst : st0 = As.reverse ++ .ref b :: st) (k1' k2' : Nat) (e1 : k1 + mc1 = k1') (e2 : k2 + ms1 = k2') (p1 : Nat) (hp : pc + 3 = p1) (hd : decode cc pc = .ok (.invokevirtual index, 3)) (kk : jW F nL k1' k2' κ' p1 lv (.float x :: st)) : jW F nL k1 k2 κ pc lv st0 := by
  subst e1 e2; exact r_cV C hM hY hlink hc hb hn hR hf hW hst p1 hp hd kk
theorem r_cVn (C : jA F own cc nL fr mc ms lo) {n b i index nY fr1 mc1 ms1 lo1 : Nat} {T : u_T} {N : Nat} {y : MethodName} {by0 : ByteArray} {rt : Option FieldType} {As st0 : List Value} {κ' : jKt}  (hM : jM (jLof F) (jGof F) y by0 nY rt fr1 mc1 ms1 lo1 (.ref b :: As) (jSof F, κ) (jIs (some .null) (jSof F, κ')) jNo) (hY : jYV y by0 nY rt n) (hlink : Cond.methodLink own index y ∈ TB) (hc : vwCl[i]? = some (y.cls, T, N)) (hb : jSof F b = (1, i, N)) (hn : As.length = n) (hR : fr1 + 1 ≤ fr ∧ 8 + (nY + 11) + lo1 ≤ lo) (hf : k1 + mc1 ≤ mc ∧ k2 + ms1 ≤ ms) (hW : (st.map fun v => v.category).sum ≤ 8) (hst : st0 = As.reverse ++ .ref b :: st) (k1' k2' : Nat) (e1 : k1 + mc1 = k1') (e2 : k2 + ms1 = k2') (p1 : Nat) (hp : pc + 3 = p1) (hd : decode cc pc = .ok (.invokevirtual index, 3)) (kk : jW F nL k1' k2' κ' p1 lv (.null :: st)) : jW F nL k1 k2 κ pc lv st0 := by
  subst e1 e2; exact r_cV C hM hY hlink hc hb hn hR hf hW hst p1 hp hd kk
theorem r_cVv (C : jA F own cc nL fr mc ms lo) {n b i index nY fr1 mc1 ms1 lo1 : Nat} {T : u_T} {N : Nat} {y : MethodName} {by0 : ByteArray} {rt : Option FieldType} {As st0 : List Value} {κ' : jKt}  (hM : jM (jLof F) (jGof F) y by0 nY rt fr1 mc1 ms1 lo1 (.ref b :: As) (jSof F, κ) (jIs (none) (jSof F, κ')) jNo) (hY : jYV y by0 nY rt n) (hlink : Cond.methodLink own index y ∈ TB) (hc : vwCl[i]? = some (y.cls, T, N)) (hb : jSof F b = (1, i, N)) (hn : As.length = n) (hR : fr1 + 1 ≤ fr ∧ 8 + (nY + 11) + lo1 ≤ lo) (hf : k1 + mc1 ≤ mc ∧ k2 + ms1 ≤ ms) (hW : (st.map fun v => v.category).sum ≤ 8) (hst : st0 = As.reverse ++ .ref b :: st) (k1' k2' : Nat) (e1 : k1 + mc1 = k1') (e2 : k2 + ms1 = k2') (p1 : Nat) (hp : pc + 3 = p1) (hd : decode cc pc = .ok (.invokevirtual index, 3)) (kk : jW F nL k1' k2' κ' p1 lv (st)) : jW F nL k1 k2 κ pc lv st0 := by
  subst e1 e2; exact r_cV C hM hY hlink hc hb hn hR hf hW hst p1 hp hd kk
theorem r_cVr (C : jA F own cc nL fr mc ms lo) {n b i index nY fr1 mc1 ms1 lo1 : Nat} {T : u_T} {N : Nat} {y : MethodName} {by0 : ByteArray} {rt : Option FieldType} {As st0 : List Value} {κ' : jKt} {a : Nat} {Tr : Nat × Nat × Nat} (hM : jM (jLof F) (jGof F) y by0 nY rt fr1 mc1 ms1 lo1 (.ref b :: As) (jSof F, κ) (jIsT a Tr (jSof F) κ') jNo) (hY : jYV y by0 nY rt n) (hlink : Cond.methodLink own index y ∈ TB) (hc : vwCl[i]? = some (y.cls, T, N)) (hb : jSof F b = (1, i, N)) (hn : As.length = n) (hR : fr1 + 1 ≤ fr ∧ 8 + (nY + 11) + lo1 ≤ lo) (hf : k1 + mc1 ≤ mc ∧ k2 + ms1 ≤ ms) (hW : (st.map fun v => v.category).sum ≤ 8) (hst : st0 = As.reverse ++ .ref b :: st) (k1' k2' : Nat) (e1 : k1 + mc1 = k1') (e2 : k2 + ms1 = k2') (p1 : Nat) (hp : pc + 3 = p1) (hd : decode cc pc = .ok (.invokevirtual index, 3)) (kk : jSof F a = Tr → jW F nL k1' k2' κ' p1 lv (.ref a :: st)) : jW F nL k1 k2 κ pc lv st0 := by
  subst e1 e2
  exact r_callV C hM hY hlink hc hb hn hR hf hW hst p1 hp hd (fun r σ' h => ⟨κ', h.2.1, by rw [h.1]; exact kk h.2.2⟩) (fun _ _ h => h.elim)
theorem r_cSi (C : jA F own cc nL fr mc ms lo) {n index nY fr1 mc1 ms1 lo1 : Nat} {y : MethodName} {by0 : ByteArray} {rt : Option FieldType} {As st0 : List Value} {κ' : jKt} {x : Int32} (hM : jM (jLof F) (jGof F) y by0 nY rt fr1 mc1 ms1 lo1 As (jSof F, κ) (jIs (some (.int x)) (jSof F, κ')) jNo) (hY : jYS y by0 nY rt n) (hlink : Cond.methodLink own index y ∈ TB) (hn : As.length = n) (hR : fr1 + 1 ≤ fr ∧ 8 + (nY + 11) + lo1 ≤ lo) (hf : k1 + mc1 ≤ mc ∧ k2 + ms1 ≤ ms) (hW : (st.map fun v => v.category).sum ≤ 8) (hst : st0 = As.reverse ++ st) (k1' k2' : Nat) (e1 : k1 + mc1 = k1') (e2 : k2 + ms1 = k2') (p1 : Nat) (hp : pc + 3 = p1) (hd : decode cc pc = .ok (.invokestatic index, 3)) (kk : jW F nL k1' k2' κ' p1 lv (.int x :: st)) : jW F nL k1 k2 κ pc lv st0 := by
  subst e1 e2; exact r_cS C hM hY hlink hn hR hf hW hst p1 hp hd kk
theorem r_cSl (C : jA F own cc nL fr mc ms lo) {n index nY fr1 mc1 ms1 lo1 : Nat} {y : MethodName} {by0 : ByteArray} {rt : Option FieldType} {As st0 : List Value} {κ' : jKt} {x : Int64} (hM : jM (jLof F) (jGof F) y by0 nY rt fr1 mc1 ms1 lo1 As (jSof F, κ) (jIs (some (.long x)) (jSof F, κ')) jNo) (hY : jYS y by0 nY rt n) (hlink : Cond.methodLink own index y ∈ TB) (hn : As.length = n) (hR : fr1 + 1 ≤ fr ∧ 8 + (nY + 11) + lo1 ≤ lo) (hf : k1 + mc1 ≤ mc ∧ k2 + ms1 ≤ ms) (hW : (st.map fun v => v.category).sum ≤ 8) (hst : st0 = As.reverse ++ st) (k1' k2' : Nat) (e1 : k1 + mc1 = k1') (e2 : k2 + ms1 = k2') (p1 : Nat) (hp : pc + 3 = p1) (hd : decode cc pc = .ok (.invokestatic index, 3)) (kk : jW F nL k1' k2' κ' p1 lv (.long x :: st)) : jW F nL k1 k2 κ pc lv st0 := by
  subst e1 e2; exact r_cS C hM hY hlink hn hR hf hW hst p1 hp hd kk
theorem r_cSd (C : jA F own cc nL fr mc ms lo) {n index nY fr1 mc1 ms1 lo1 : Nat} {y : MethodName} {by0 : ByteArray} {rt : Option FieldType} {As st0 : List Value} {κ' : jKt} {x : UInt64} (hM : jM (jLof F) (jGof F) y by0 nY rt fr1 mc1 ms1 lo1 As (jSof F, κ) (jIs (some (.double x)) (jSof F, κ')) jNo) (hY : jYS y by0 nY rt n) (hlink : Cond.methodLink own index y ∈ TB) (hn : As.length = n) (hR : fr1 + 1 ≤ fr ∧ 8 + (nY + 11) + lo1 ≤ lo) (hf : k1 + mc1 ≤ mc ∧ k2 + ms1 ≤ ms) (hW : (st.map fun v => v.category).sum ≤ 8) (hst : st0 = As.reverse ++ st) (k1' k2' : Nat) (e1 : k1 + mc1 = k1') (e2 : k2 + ms1 = k2') (p1 : Nat) (hp : pc + 3 = p1) (hd : decode cc pc = .ok (.invokestatic index, 3)) (kk : jW F nL k1' k2' κ' p1 lv (.double x :: st)) : jW F nL k1 k2 κ pc lv st0 := by
  subst e1 e2; exact r_cS C hM hY hlink hn hR hf hW hst p1 hp hd kk
theorem r_cSf (C : jA F own cc nL fr mc ms lo) {n index nY fr1 mc1 ms1 lo1 : Nat} {y : MethodName} {by0 : ByteArray} {rt : Option FieldType} {As st0 : List Value} {κ' : jKt} {x : UInt32} (hM : jM (jLof F) (jGof F) y by0 nY rt fr1 mc1 ms1 lo1 As (jSof F, κ) (jIs (some (.float x)) (jSof F, κ')) jNo) (hY : jYS y by0 nY rt n) (hlink : Cond.methodLink own index y ∈ TB) (hn : As.length = n) (hR : fr1 + 1 ≤ fr ∧ 8 + (nY + 11) + lo1 ≤ lo) (hf : k1 + mc1 ≤ mc ∧ k2 + ms1 ≤ ms) (hW : (st.map fun v => v.category).sum ≤ 8) (hst : st0 = As.reverse ++ st) (k1' k2' : Nat) (e1 : k1 + mc1 = k1') (e2 : k2 + ms1 = k2') (p1 : Nat) (hp : pc + 3 = p1) (hd : decode cc pc = .ok (.invokestatic index, 3)) (kk : jW F nL k1' k2' κ' p1 lv (.float x :: st)) : jW F nL k1 k2 κ pc lv st0 := by
  subst e1 e2; exact r_cS C hM hY hlink hn hR hf hW hst p1 hp hd kk
theorem r_cSn (C : jA F own cc nL fr mc ms lo) {n index nY fr1 mc1 ms1 lo1 : Nat} {y : MethodName} {by0 : ByteArray} {rt : Option FieldType} {As st0 : List Value} {κ' : jKt}  (hM : jM (jLof F) (jGof F) y by0 nY rt fr1 mc1 ms1 lo1 As (jSof F, κ) (jIs (some .null) (jSof F, κ')) jNo) (hY : jYS y by0 nY rt n) (hlink : Cond.methodLink own index y ∈ TB) (hn : As.length = n) (hR : fr1 + 1 ≤ fr ∧ 8 + (nY + 11) + lo1 ≤ lo) (hf : k1 + mc1 ≤ mc ∧ k2 + ms1 ≤ ms) (hW : (st.map fun v => v.category).sum ≤ 8) (hst : st0 = As.reverse ++ st) (k1' k2' : Nat) (e1 : k1 + mc1 = k1') (e2 : k2 + ms1 = k2') (p1 : Nat) (hp : pc + 3 = p1) (hd : decode cc pc = .ok (.invokestatic index, 3)) (kk : jW F nL k1' k2' κ' p1 lv (.null :: st)) : jW F nL k1 k2 κ pc lv st0 := by
  subst e1 e2; exact r_cS C hM hY hlink hn hR hf hW hst p1 hp hd kk
theorem r_cSv (C : jA F own cc nL fr mc ms lo) {n index nY fr1 mc1 ms1 lo1 : Nat} {y : MethodName} {by0 : ByteArray} {rt : Option FieldType} {As st0 : List Value} {κ' : jKt}  (hM : jM (jLof F) (jGof F) y by0 nY rt fr1 mc1 ms1 lo1 As (jSof F, κ) (jIs (none) (jSof F, κ')) jNo) (hY : jYS y by0 nY rt n) (hlink : Cond.methodLink own index y ∈ TB) (hn : As.length = n) (hR : fr1 + 1 ≤ fr ∧ 8 + (nY + 11) + lo1 ≤ lo) (hf : k1 + mc1 ≤ mc ∧ k2 + ms1 ≤ ms) (hW : (st.map fun v => v.category).sum ≤ 8) (hst : st0 = As.reverse ++ st) (k1' k2' : Nat) (e1 : k1 + mc1 = k1') (e2 : k2 + ms1 = k2') (p1 : Nat) (hp : pc + 3 = p1) (hd : decode cc pc = .ok (.invokestatic index, 3)) (kk : jW F nL k1' k2' κ' p1 lv (st)) : jW F nL k1 k2 κ pc lv st0 := by
  subst e1 e2; exact r_cS C hM hY hlink hn hR hf hW hst p1 hp hd kk
theorem r_cSr (C : jA F own cc nL fr mc ms lo) {n index nY fr1 mc1 ms1 lo1 : Nat} {y : MethodName} {by0 : ByteArray} {rt : Option FieldType} {As st0 : List Value} {κ' : jKt} {a : Nat} {Tr : Nat × Nat × Nat} (hM : jM (jLof F) (jGof F) y by0 nY rt fr1 mc1 ms1 lo1 As (jSof F, κ) (jIsT a Tr (jSof F) κ') jNo) (hY : jYS y by0 nY rt n) (hlink : Cond.methodLink own index y ∈ TB) (hn : As.length = n) (hR : fr1 + 1 ≤ fr ∧ 8 + (nY + 11) + lo1 ≤ lo) (hf : k1 + mc1 ≤ mc ∧ k2 + ms1 ≤ ms) (hW : (st.map fun v => v.category).sum ≤ 8) (hst : st0 = As.reverse ++ st) (k1' k2' : Nat) (e1 : k1 + mc1 = k1') (e2 : k2 + ms1 = k2') (p1 : Nat) (hp : pc + 3 = p1) (hd : decode cc pc = .ok (.invokestatic index, 3)) (kk : jSof F a = Tr → jW F nL k1' k2' κ' p1 lv (.ref a :: st)) : jW F nL k1 k2 κ pc lv st0 := by
  subst e1 e2
  exact r_callS C hM hY hlink hn hR hf hW hst p1 hp hd (fun r σ' h => ⟨κ', h.2.1, by rw [h.1]; exact kk h.2.2⟩) (fun _ _ h => h.elim)
theorem r_ineg (C : jA F own cc nL fr mc ms lo) {x : Int32} (p1 : Nat) (hp : pc + 1 = p1) (hd : decode cc pc = .ok (.ineg, 1)) (kk : jW F nL k1 k2 κ p1 lv (.int (-x) :: st)) : jW F nL k1 k2 κ pc lv (.int x :: st) := by
  obtain ⟨p, l, e, R, s, m, args, below, meth, c, G, sh, Qr, Qx, mc, ms, Q⟩ := F; subst hp; exact fun H locs ls hR hL hl => lv_ineg C.1.1.1 C.1.1.2.1 hd (kk H locs ls hR hL hl)
theorem r_iushr (C : jA F own cc nL fr mc ms lo) {x y : Int32} (p1 : Nat) (hp : pc + 1 = p1) (hd : decode cc pc = .ok (.iushr, 1)) (kk : jW F nL k1 k2 κ p1 lv (.int (iushr x y) :: st)) : jW F nL k1 k2 κ pc lv (.int y :: .int x :: st) := by
  obtain ⟨p, l, e, R, s, m, args, below, meth, c, G, sh, Qr, Qx, mc, ms, Q⟩ := F; subst hp; exact fun H locs ls hR hL hl => lv_iushr C.1.1.1 C.1.1.2.1 hd rfl (kk H locs ls hR hL hl)
theorem r_ldc_w (C : jA F own cc nL fr mc ms lo) {index : Nat} {v : Int32} (hw : Cond.constant own index v ∈ TB) (p1 : Nat) (hp : pc + 3 = p1) (hd : decode cc pc = .ok (.ldc_w index, 3)) (kk : jW F nL k1 k2 κ p1 lv (.int v :: st)) : jW F nL k1 k2 κ pc lv st := by
  obtain ⟨p, l, e, R, s, m, args, below, meth, c, G, sh, Qr, Qx, mc, ms, Q⟩ := F; subst hp; exact fun H locs ls hR hL hl => lv_ldcw C.1.1.1 C.1.1.2.1 C.1.1.2.2.2.1 (C.1.1.2.2.2.2 _ hw) hd (kk H locs ls hR hL hl)
theorem r_mmax (C : jA F own cc nL fr mc ms lo) {index : Nat} {x y : Int32} (hm : jMx own index Lib.Math.max.name Lib.Math.max.code 2) (hR : 1 ≤ fr ∧ (st.map fun v => v.category).sum + 13 ≤ lo) (hk : k1 ≤ mc ∧ k2 ≤ ms) (p1 : Nat) (hp : pc + 3 = p1) (hd : decode cc pc = .ok (.invokestatic index, 3)) (kk : jW F nL k1 k2 κ p1 lv (.int (jmax x y) :: st)) : jW F nL k1 k2 κ pc lv (.int y :: .int x :: st) := by
  obtain ⟨p, l, e, R, s, m, args, below, meth, c, G, sh, Qr, Qx, mc, ms, Q⟩ := F
  subst hp
  obtain ⟨C1, C4⟩ := C
  subst C4
  have hts := C1.1.2.2.2.2
  exact fun H locs ls hR1 hL hl => va_mmax C1.1.1 C1.1.2.1 (by rw [C1.1.2.2.1]; exact hl.1.symm) C1.1.2.2.2.1 (hts _ hm.1) (hts _ hm.2.1) (hts _ hm.2.2.1) (hts _ hm.2.2.2) hR.1 hR.2 hk.1 hk.2 hd (kk H locs ls hR1 hL hl)
theorem r_mmin (C : jA F own cc nL fr mc ms lo) {index : Nat} {x y : Int32} (hm : jMx own index Lib.Math.min.name Lib.Math.min.code 2) (hR : 1 ≤ fr ∧ (st.map fun v => v.category).sum + 13 ≤ lo) (hk : k1 ≤ mc ∧ k2 ≤ ms) (p1 : Nat) (hp : pc + 3 = p1) (hd : decode cc pc = .ok (.invokestatic index, 3)) (kk : jW F nL k1 k2 κ p1 lv (.int (jmin x y) :: st)) : jW F nL k1 k2 κ pc lv (.int y :: .int x :: st) := by
  obtain ⟨p, l, e, R, s, m, args, below, meth, c, G, sh, Qr, Qx, mc, ms, Q⟩ := F
  subst hp
  obtain ⟨C1, C4⟩ := C
  subst C4
  have hts := C1.1.2.2.2.2
  exact fun H locs ls hR1 hL hl => va_mmin C1.1.1 C1.1.2.1 (by rw [C1.1.2.2.1]; exact hl.1.symm) C1.1.2.2.2.1 (hts _ hm.1) (hts _ hm.2.1) (hts _ hm.2.2.1) (hts _ hm.2.2.2) hR.1 hR.2 hk.1 hk.2 hd (kk H locs ls hR1 hL hl)
theorem r_mabs (C : jA F own cc nL fr mc ms lo) {index : Nat} {x : Int32} (hm : jMx own index Lib.Math.abs.name Lib.Math.abs.code 1) (hR : 1 ≤ fr ∧ (st.map fun v => v.category).sum + 13 ≤ lo) (hk : k1 ≤ mc ∧ k2 ≤ ms) (p1 : Nat) (hp : pc + 3 = p1) (hd : decode cc pc = .ok (.invokestatic index, 3)) (kk : jW F nL k1 k2 κ p1 lv (.int (jabs x) :: st)) : jW F nL k1 k2 κ pc lv (.int x :: st) := by
  obtain ⟨p, l, e, R, s, m, args, below, meth, c, G, sh, Qr, Qx, mc, ms, Q⟩ := F
  subst hp
  obtain ⟨C1, C4⟩ := C
  subst C4
  have hts := C1.1.2.2.2.2
  exact fun H locs ls hR1 hL hl => va_mabs C1.1.1 C1.1.2.1 (by rw [C1.1.2.2.1]; exact hl.1.symm) C1.1.2.2.2.1 (hts _ hm.1) (hts _ hm.2.1) (hts _ hm.2.2.1) (hts _ hm.2.2.2) hR.1 hR.2 hk.1 hk.2 hd (kk H locs ls hR1 hL hl)
theorem r_dconst0 (C : jA F own cc nL fr mc ms lo) (p1 : Nat) (hp : pc + 1 = p1) (hd : decode cc pc = .ok (.dconst 0, 1)) (kk : jW F nL k1 k2 κ p1 lv (.double FP.dconst0 :: st)) : jW F nL k1 k2 κ pc lv (st) := by
  obtain ⟨p, l, e, R, s, m, args, below, meth, c, G, sh, Qr, Qx, mc, ms, Q⟩ := F; subst hp; exact fun H locs ls hR hL hl => lv_dconst0 C.1.1.1 C.1.1.2.1 hd (kk H locs ls hR hL hl)
theorem r_fconst0 (C : jA F own cc nL fr mc ms lo) (p1 : Nat) (hp : pc + 1 = p1) (hd : decode cc pc = .ok (.fconst 0, 1)) (kk : jW F nL k1 k2 κ p1 lv (.float FP.fconst0 :: st)) : jW F nL k1 k2 κ pc lv (st) := by
  obtain ⟨p, l, e, R, s, m, args, below, meth, c, G, sh, Qr, Qx, mc, ms, Q⟩ := F; subst hp; exact fun H locs ls hR hL hl => lv_fconst0 C.1.1.1 C.1.1.2.1 hd (kk H locs ls hR hL hl)
theorem r_lconst (C : jA F own cc nL fr mc ms lo) {n : Fin 2} (v : Int64) (hv : Int64.ofNat (n : Nat) = v) (p1 : Nat) (hp : pc + 1 = p1) (hd : decode cc pc = .ok (.lconst n, 1)) (kk : jW F nL k1 k2 κ p1 lv (.long v :: st)) : jW F nL k1 k2 κ pc lv (st) := by
  obtain ⟨p, l, e, R, s, m, args, below, meth, c, G, sh, Qr, Qx, mc, ms, Q⟩ := F; subst hp; exact fun H locs ls hR hL hl => lv_lconst C.1.1.1 C.1.1.2.1 hd hv (kk H locs ls hR hL hl)
theorem r_i2d (C : jA F own cc nL fr mc ms lo) {x : Int32} (p1 : Nat) (hp : pc + 1 = p1) (hd : decode cc pc = .ok (.i2d, 1)) (kk : jW F nL k1 k2 κ p1 lv (.double (FP.i2d x) :: st)) : jW F nL k1 k2 κ pc lv (.int x :: st) := by
  obtain ⟨p, l, e, R, s, m, args, below, meth, c, G, sh, Qr, Qx, mc, ms, Q⟩ := F; subst hp; exact fun H locs ls hR hL hl => lv_i2d C.1.1.1 C.1.1.2.1 hd (kk H locs ls hR hL hl)
theorem r_i2f (C : jA F own cc nL fr mc ms lo) {x : Int32} (p1 : Nat) (hp : pc + 1 = p1) (hd : decode cc pc = .ok (.i2f, 1)) (kk : jW F nL k1 k2 κ p1 lv (.float (FP.i2f x) :: st)) : jW F nL k1 k2 κ pc lv (.int x :: st) := by
  obtain ⟨p, l, e, R, s, m, args, below, meth, c, G, sh, Qr, Qx, mc, ms, Q⟩ := F; subst hp; exact fun H locs ls hR hL hl => lv_i2f C.1.1.1 C.1.1.2.1 hd (kk H locs ls hR hL hl)
theorem r_f2d (C : jA F own cc nL fr mc ms lo) {x : UInt32} (p1 : Nat) (hp : pc + 1 = p1) (hd : decode cc pc = .ok (.f2d, 1)) (hne : vf_n64 (FP.f2d x)) (kk : jW F nL k1 k2 κ p1 lv (.double (FP.f2d x) :: st)) : jW F nL k1 k2 κ pc lv (.float x :: st) := by
  obtain ⟨p, l, e, R, s, m, args, below, meth, c, G, sh, Qr, Qx, mc, ms, Q⟩ := F; subst hp; exact fun H locs ls hR hL hl => lv_f2d C.1.1.1 C.1.1.2.1 hd hne (kk H locs ls hR hL hl)
theorem r_ddiv (C : jA F own cc nL fr mc ms lo) {x y : UInt64} (p1 : Nat) (hp : pc + 1 = p1) (hd : decode cc pc = .ok (.ddiv, 1)) (hne : vf_n64 (FP.ddiv x y)) (kk : jW F nL k1 k2 κ p1 lv (.double (FP.ddiv x y) :: st)) : jW F nL k1 k2 κ pc lv (.double y :: .double x :: st) := by
  obtain ⟨p, l, e, R, s, m, args, below, meth, c, G, sh, Qr, Qx, mc, ms, Q⟩ := F; subst hp; exact fun H locs ls hR hL hl => lv_ddiv C.1.1.1 C.1.1.2.1 hd hne (kk H locs ls hR hL hl)
theorem r_fdiv (C : jA F own cc nL fr mc ms lo) {x y : UInt32} (p1 : Nat) (hp : pc + 1 = p1) (hd : decode cc pc = .ok (.fdiv, 1)) (hne : vf_n32 (FP.fdiv x y)) (kk : jW F nL k1 k2 κ p1 lv (.float (FP.fdiv x y) :: st)) : jW F nL k1 k2 κ pc lv (.float y :: .float x :: st) := by
  obtain ⟨p, l, e, R, s, m, args, below, meth, c, G, sh, Qr, Qx, mc, ms, Q⟩ := F; subst hp; exact fun H locs ls hR hL hl => lv_fdiv C.1.1.1 C.1.1.2.1 hd hne (kk H locs ls hR hL hl)
theorem r_lcmp (C : jA F own cc nL fr mc ms lo) {x y : Int64} (p1 : Nat) (hp : pc + 1 = p1) (hd : decode cc pc = .ok (.lcmp, 1)) (kk : jW F nL k1 k2 κ p1 lv (.int (lg_cmp x y) :: st)) : jW F nL k1 k2 κ pc lv (.long y :: .long x :: st) := by
  obtain ⟨p, l, e, R, s, m, args, below, meth, c, G, sh, Qr, Qx, mc, ms, Q⟩ := F; subst hp; exact fun H locs ls hR hL hl => W.lcmp C.1.1.1 C.1.1.2.1 hd (kk H locs ls hR hL hl)
theorem r_dcmp (C : jA F own cc nL fr mc ms lo) {x y : UInt64} {op : CmpOp} (p1 : Nat) (hp : pc + 1 = p1) (hd : decode cc pc = .ok (.dcmp op, 1)) (kk : jW F nL k1 k2 κ p1 lv (.int (Op.cmpValue (FP.dcmp x y) op) :: st)) : jW F nL k1 k2 κ pc lv (.double y :: .double x :: st) := by
  obtain ⟨p, l, e, R, s, m, args, below, meth, c, G, sh, Qr, Qx, mc, ms, Q⟩ := F; subst hp; exact fun H locs ls hR hL hl => lv_dcmp C.1.1.1 C.1.1.2.1 hd (kk H locs ls hR hL hl)
theorem r_aload_nN (C : jA F own cc nL fr mc ms lo) {i : Fin 4} (j : Nat) (p1 : Nat) (hp : pc + 1 = p1) (hd : decode cc pc = .ok (.aload_n i, 1)) (hl : lv[j]? = some ((i : Nat), .null)) (kk : jW F nL k1 k2 κ p1 lv (.null :: st)) : jW F nL k1 k2 κ pc lv st := by
  obtain ⟨p, l, e, R, s, m, args, below, meth, c, G, sh, Qr, Qx, mc, ms, Q⟩ := F; subst hp; exact fun H locs ls hR hL hv => lv_aload_nN C.1.1.1 C.1.1.2.1 hd rfl (lv_at hv j hl) (kk H locs ls hR hL hv)
theorem r_aloadN (C : jA F own cc nL fr mc ms lo) {i : Nat} (j : Nat) (p1 : Nat) (hp : pc + 2 = p1) (hd : decode cc pc = .ok (.aload i, 2)) (hl : lv[j]? = some (i, .null)) (kk : jW F nL k1 k2 κ p1 lv (.null :: st)) : jW F nL k1 k2 κ pc lv st := by
  obtain ⟨p, l, e, R, s, m, args, below, meth, c, G, sh, Qr, Qx, mc, ms, Q⟩ := F; subst hp; exact fun H locs ls hR hL hv => lv_aloadN C.1.1.1 C.1.1.2.1 hd (lv_at hv j hl) (kk H locs ls hR hL hv)
theorem r_astore_nN (C : jA F own cc nL fr mc ms lo) {i : Fin 4} (ks : List Nat) (p1 : Nat) (hp : pc + 1 = p1) (hd : decode cc pc = .ok (.astore_n i, 1)) (hn : (i : Nat) < nL) (hk : lv_pick (((i : Nat), Value.null) :: lv.filter (fun q => !(q.1 == (i : Nat)) && !(q.1 + 1 == (i : Nat) && q.2.category == 2))) ks = lv') (kk : jW F nL k1 k2 κ p1 lv' st) : jW F nL k1 k2 κ pc lv (.null :: st) := by
  obtain ⟨p, l, e, R, s, m, args, below, meth, c, G, sh, Qr, Qx, mc, ms, Q⟩ := F; subst hp; exact fun H locs ls hR hL hv => lv_astore_nN C.1.1.1 C.1.1.2.1 hd rfl hv hn rfl (fun ls' hv' => kk H locs ls' hR hL (lv_sub hv' ks hk))
theorem r_astoreN (C : jA F own cc nL fr mc ms lo) {i : Nat} (ks : List Nat) (p1 : Nat) (hp : pc + 2 = p1) (hd : decode cc pc = .ok (.astore i, 2)) (hn : i < nL) (hk : lv_pick ((i, Value.null) :: lv.filter (fun q => !(q.1 == i) && !(q.1 + 1 == i && q.2.category == 2))) ks = lv') (kk : jW F nL k1 k2 κ p1 lv' st) : jW F nL k1 k2 κ pc lv (.null :: st) := by
  obtain ⟨p, l, e, R, s, m, args, below, meth, c, G, sh, Qr, Qx, mc, ms, Q⟩ := F; subst hp; exact fun H locs ls hR hL hv => lv_astoreN C.1.1.1 C.1.1.2.1 hd hv hn rfl (fun ls' hv' => kk H locs ls' hR hL (lv_sub hv' ks hk))
theorem r_dret (C : jB F own cc nL ret fr mc ms lo) {x : UInt64} (hr : ret = some .double) (h1 : k1 ≤ mc) (h2 : k2 ≤ ms) (hd : decode cc pc = .ok (.dreturn, 1)) (hq : jOut F (some (.double x)) κ) : jW F nL k1 k2 κ pc lv [.double x] := by
  obtain ⟨p, l, e, R, s, m, args, below, meth, c, G, sh, Qr, Qx, mc, ms, Q⟩ := F
  obtain ⟨⟨C1, C4⟩, C2, C3, C5, C6, C7⟩ := C
  subst C5 C6 C7
  intro H locs ls hR hL hl
  refine W.widen h1 h2 (vx_ret ?_)
  exact W.dret C1.1.1 C1.1.2.1 (C2.trans hr) (fun t ht hW => ⟨_, (sh, κ), rfl, hq, by rw [ht]; exact hR⟩) hL hd C1.2.2.1
theorem r_fret (C : jB F own cc nL ret fr mc ms lo) {x : UInt32} (hr : ret = some .float) (h1 : k1 ≤ mc) (h2 : k2 ≤ ms) (hd : decode cc pc = .ok (.freturn, 1)) (hq : jOut F (some (.float x)) κ) : jW F nL k1 k2 κ pc lv [.float x] := by
  obtain ⟨p, l, e, R, s, m, args, below, meth, c, G, sh, Qr, Qx, mc, ms, Q⟩ := F
  obtain ⟨⟨C1, C4⟩, C2, C3, C5, C6, C7⟩ := C
  subst C5 C6 C7
  intro H locs ls hR hL hl
  refine W.widen h1 h2 (vx_ret ?_)
  exact W.fret C1.1.1 C1.1.2.1 (C2.trans hr) (fun t ht hW => ⟨_, (sh, κ), rfl, hq, by rw [ht]; exact hR⟩) hL hd C1.2.2.1
theorem r_aast (C : jA F own cc nL fr mc ms lo) {a b t n : Nat} (ci : Nat) {r : vw_C} {i : Int32} {κ' : jKt} (hc : vwCl[ci]? = some r) (hty : j_aty t = .object r.1) (he : j_eT t = (1, ci, r.2.2)) (hb : jSof F b = (1, ci, r.2.2)) (ha : jSof F a = (2, t, n)) (hin : jin i n) (hκ : κ' = kU κ a (ix i) (.ref b)) (p1 : Nat) (hp : pc + 1 = p1) (hd : decode cc pc = .ok (.aastore, 1)) (kk : jW F nL k1 k2 κ' p1 lv st) : jW F nL k1 k2 κ pc lv (.ref b :: .int i :: .ref a :: st) := by
  obtain ⟨p, l, e, R, s, m, args, below, meth, c, G, sh, Qr, Qx, mc, ms, Q⟩ := F; subst hκ hp; exact j_aast C.1 hc hty he hb ha hin hd kk
end JW2
