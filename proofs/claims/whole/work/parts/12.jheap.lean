/-! ===== fields and arrays ===== -/
section JHEAP
variable {p : Program} {l : Launch} {e : Env} {R : Room} {s : State} {m : MethodId} {args : Array Value} {below : List Frame} {meth : Method} {c : Code} {Q : State → Prop} {G : jG} {own : String} {cc : ByteArray} {nL k1 k2 : Nat} {σ : jH} {pc : Nat} {lv lv' : List (Nat × Value)} {st : List Value}
/-- a field is read; (T k) is a field of class i -/
theorem j_getV (C : jC p l s m args meth c G own cc nL) {C1 : String} {T : u_T} {N i a index : Nat} (k : Nat) (hc : vwCl[i]? = some (C1, T, N)) (hin : ∀ w ∈ u_ws C1 T N, w ∈ TB) (hk : k < N) (hlink : Cond.fieldLink own index (T k).1 (T k).2.1 (T k).2.2.1 ∈ TB) (ha : ((σ.1 a).1 = 1 ∨ (σ.1 a).1 = 3) ∧ (σ.1 a).2.1 = i) (hdg : decode cc pc = .ok (.getfield index, 3))
    (kk : jd p l e R s m args below meth c G nL Q k1 k2 σ (pc + 3) lv (σ.2 a k :: st)) : jd p l e R s m args below meth c G nL Q k1 k2 σ pc lv (.ref a :: st) := by
  intro H locs ls hR hL hl
  obtain ⟨r, h1, hN, cell, q1, q2, q3, q4⟩ := (hR.1.2 a).2.1 ha.1
  rw [ha.2] at h1 q2 q4
  have hr : r = (C1, T, N) := Option.some.inj (h1.symm.trans hc)
  subst hr
  obtain ⟨hS, hfc, kC, hkC, hkind⟩ := C.2.1.1 i _ hc
  obtain ⟨cf, kf, fi, f, hi, hsl⟩ := hS k hk
  refine W.getf C.1.1 C.1.2.1 C.1.2.2.2.1 (C.1.2.2.2.2 _ hlink) hi (u_facts hfc hkC (u_lays C.1.2.2.2.2 hin hk) hi).1 q1 (by rw [q3]; exact fun h => by cases h) (v := σ.2 a k) ?_ rfl rfl hdg (kk H locs ls hR hL hl)
  rw [hsl, q4 k hk]
theorem j_getVN (C : jC p l s m args meth c G own cc nL) {C1 host : String} {T : u_T} {N i a index : Nat} (k : Nat) (hc : vwCl[i]? = some (C1, T, N)) (hin : ∀ w ∈ u_ws C1 T N, w ∈ TB) (hk : k < N) (hlink : Cond.fieldLinkNest own index (T k).1 (T k).2.1 (T k).2.2.1 host ∈ TB) (ha : ((σ.1 a).1 = 1 ∨ (σ.1 a).1 = 3) ∧ (σ.1 a).2.1 = i) (hdg : decode cc pc = .ok (.getfield index, 3))
    (kk : jd p l e R s m args below meth c G nL Q k1 k2 σ (pc + 3) lv (σ.2 a k :: st)) : jd p l e R s m args below meth c G nL Q k1 k2 σ pc lv (.ref a :: st) := by
  intro H locs ls hR hL hl
  obtain ⟨r, h1, hN, cell, q1, q2, q3, q4⟩ := (hR.1.2 a).2.1 ha.1
  rw [ha.2] at h1 q2 q4
  have hr : r = (C1, T, N) := Option.some.inj (h1.symm.trans hc)
  subst hr
  obtain ⟨hS, hfc, kC, hkC, hkind⟩ := C.2.1.1 i _ hc
  obtain ⟨cf, kf, fi, f, hi, hsl⟩ := hS k hk
  refine va_Wgetf C.1.1 C.1.2.1 C.1.2.2.2.1 (C.1.2.2.2.2 _ hlink) hi (u_facts hfc hkC (u_lays C.1.2.2.2.2 hin hk) hi).1 q1 (by rw [q3]; exact fun h => by cases h) (v := σ.2 a k) ?_ rfl rfl hdg (kk H locs ls hR hL hl)
  rw [hsl, q4 k hk]
/-- what is known of a field that is read: an int, a long.. or a reference to a cell of its kind -/
theorem j_getI (C : jC p l s m args meth c G own cc nL) {C1 : String} {T : u_T} {N i a index : Nat} (k : Nat) (hc : vwCl[i]? = some (C1, T, N)) (hin : ∀ w ∈ u_ws C1 T N, w ∈ TB) (hk : k < N) (hlink : Cond.fieldLink own index (T k).1 (T k).2.1 (T k).2.2.1 ∈ TB) (he : (j_fT i k).1 = 0) (ha : σ.1 a = (1, i, N)) (hdg : decode cc pc = .ok (.getfield index, 3))
    (kk : jd p l e R s m args below meth c G nL Q k1 k2 σ (pc + 3) lv (.int (gI σ a k) :: st)) : jd p l e R s m args below meth c G nL Q k1 k2 σ pc lv (.ref a :: st) := by
  refine jd_wt fun hw => j_getV C k hc hin hk hlink ⟨Or.inl (by rw [ha]), by rw [ha]⟩ hdg ?_
  have h := (hw a k).1 (by rw [ha]) (by rw [ha]; exact hk)
  rw [ha] at h
  rw [j_int h he]
  exact kk
theorem j_getIN (C : jC p l s m args meth c G own cc nL) {C1 host : String} {T : u_T} {N i a index : Nat} (k : Nat) (hc : vwCl[i]? = some (C1, T, N)) (hin : ∀ w ∈ u_ws C1 T N, w ∈ TB) (hk : k < N) (hlink : Cond.fieldLinkNest own index (T k).1 (T k).2.1 (T k).2.2.1 host ∈ TB) (he : (j_fT i k).1 = 0) (ha : σ.1 a = (1, i, N)) (hdg : decode cc pc = .ok (.getfield index, 3))
    (kk : jd p l e R s m args below meth c G nL Q k1 k2 σ (pc + 3) lv (.int (gI σ a k) :: st)) : jd p l e R s m args below meth c G nL Q k1 k2 σ pc lv (.ref a :: st) := by
  refine jd_wt fun hw => j_getVN C k hc hin hk hlink ⟨Or.inl (by rw [ha]), by rw [ha]⟩ hdg ?_
  have h := (hw a k).1 (by rw [ha]) (by rw [ha]; exact hk)
  rw [ha] at h
  rw [j_int h he]
  exact kk
theorem j_getR (C : jC p l s m args meth c G own cc nL) {C1 : String} {T : u_T} {N i a index : Nat} (k : Nat) (hc : vwCl[i]? = some (C1, T, N)) (hin : ∀ w ∈ u_ws C1 T N, w ∈ TB) (hk : k < N) (hlink : Cond.fieldLink own index (T k).1 (T k).2.1 (T k).2.2.1 ∈ TB) (he : jIsR (j_fT i k) = true) (ha : σ.1 a = (1, i, N)) (hdg : decode cc pc = .ok (.getfield index, 3))
    (kk : σ.1 (gR σ a k) = j_fT i k → jd p l e R s m args below meth c G nL Q k1 k2 σ (pc + 3) lv (.ref (gR σ a k) :: st)) : jd p l e R s m args below meth c G nL Q k1 k2 σ pc lv (.ref a :: st) := by
  refine jd_wt fun hw => j_getV C k hc hin hk hlink ⟨Or.inl (by rw [ha]), by rw [ha]⟩ hdg ?_
  have h := (hw a k).1 (by rw [ha]) (by rw [ha]; exact hk)
  rw [ha] at h
  obtain ⟨h1, h2⟩ := j_ref h he
  rw [h1]
  exact kk h2
theorem j_getRN (C : jC p l s m args meth c G own cc nL) {C1 host : String} {T : u_T} {N i a index : Nat} (k : Nat) (hc : vwCl[i]? = some (C1, T, N)) (hin : ∀ w ∈ u_ws C1 T N, w ∈ TB) (hk : k < N) (hlink : Cond.fieldLinkNest own index (T k).1 (T k).2.1 (T k).2.2.1 host ∈ TB) (he : jIsR (j_fT i k) = true) (ha : σ.1 a = (1, i, N)) (hdg : decode cc pc = .ok (.getfield index, 3))
    (kk : σ.1 (gR σ a k) = j_fT i k → jd p l e R s m args below meth c G nL Q k1 k2 σ (pc + 3) lv (.ref (gR σ a k) :: st)) : jd p l e R s m args below meth c G nL Q k1 k2 σ pc lv (.ref a :: st) := by
  refine jd_wt fun hw => j_getVN C k hc hin hk hlink ⟨Or.inl (by rw [ha]), by rw [ha]⟩ hdg ?_
  have h := (hw a k).1 (by rw [ha]) (by rw [ha]; exact hk)
  rw [ha] at h
  obtain ⟨h1, h2⟩ := j_ref h he
  rw [h1]
  exact kk h2
theorem j_tset {σ : jH} {a : Nat} {cC : ClassId} {N : Nat} {iS : Nat → Nat} {H : Heap} {k : Nat} {v : Value} (h : t_OB a cC N iS H (updV (σ.2 a) k v)) : t_OB a cC N iS H ((pV σ a k v).2 a) := by
  refine h.to (fun j _ => ?_)
  by_cases hj : j = k
  · subst hj; simp [updV, pV]
  · simp [updV, pV, hj]
/-- a field that is not final is written -/
theorem j_putV (C : jC p l s m args meth c G own cc nL) {C1 : String} {T : u_T} {N i a index : Nat} {ty0 : Nat → FieldType} {v : Value} (k : Nat) (hc : vwCl[i]? = some (C1, T, N)) (hin : ∀ w ∈ u_ws C1 T N, w ∈ TB) (hty : ∀ k, k < N → parseFieldDescriptor (T k).2.2.1 = some (ty0 k)) (hnm : ∀ a, a < N → ∀ b, b < N → a ≠ b → (T a).2.1 ≠ (T b).2.1) (hk : k < N) (hlink : Cond.fieldLink own index (T k).1 (T k).2.1 (T k).2.2.1 ∈ TB) (hfin : (T k).2.2.2 = false) (hn : narrow (ty0 k) v = v) (hfit : fits (ty0 k) v = true)
    (ha : ((σ.1 a).1 = 1 ∨ (σ.1 a).1 = 3) ∧ (σ.1 a).2.1 = i) (hok : (σ.1 a).1 = 1 → j_ok σ.1 (j_fT i k) v) (hdg : decode cc pc = .ok (.putfield index, 3))
    (kk : jd p l e R s m args below meth c G nL Q k1 k2 (pV σ a k v) (pc + 3) lv st) : jd p l e R s m args below meth c G nL Q k1 k2 σ pc lv (v :: .ref a :: st) := by
  intro H locs ls hR hL hl
  have hap := va_apart (own := own) C.1.2.2.2.2 hin ty0 hty hnm C.2.1 hc
  obtain ⟨r, h1, hN, cell, q1, q2, q3, q4⟩ := (hR.1.2 a).2.1 ha.1
  rw [ha.2] at h1 q2 q4
  have hr : r = (C1, T, N) := Option.some.inj (h1.symm.trans hc)
  subst hr
  obtain ⟨hS, hfc, kC, hkC, hkind⟩ := C.2.1.1 i _ hc
  obtain ⟨cf, kf, fi, f, hi, hsl⟩ := hS k hk
  have hlay := C.1.2.2.2.2 _ (hin _ (u_in_lay hk))
  unfold u_lay at hlay
  rw [if_neg (by rw [hfin]; decide)] at hlay
  have hst := (u_facts hfc hkC (u_lays C.1.2.2.2.2 hin hk) hi).1
  have h6 := u_store hfc hkC hkind hlay hi (hty k hk) hn hfit
  have hne : (σ.1 a).1 ≠ 0 := by rcases ha.1 with h | h <;> rw [h] <;> decide
  refine W.putK C.1.1 C.1.2.1 (f := f) ⟨C.1.2.2.2.1, C.1.2.2.2.2 _ hlink, ⟨_, _, _, hi⟩, hst⟩ (by rw [q2]; exact h6) q1 q3 (by rw [hsl]; exact k2_hasslot (q4 k hk)) rfl rfl hdg fun H' e1 e2 e3 => ?_
  rw [hsl] at e1 ⊢
  have hob : t_OB a (G.1.1 i) N (G.1.2 i) H' (updV (σ.2 a) k v) := ⟨_, e1, q2, q3, t_set q4 hap hk v⟩
  refine kk H' _ ls ⟨jRp_put hR.1 hne (by first | exact ha.1.elim Or.inl (fun h => Or.inr (Or.inr (Or.inl h))) | exact Or.inr (Or.inr (Or.inl ha.1))) e2 e3 (fun g r2 hr2 => ?_) (fun g => ?_), jWT_put hR.2 (fun g => by rw [ha.2]; exact hok g) (fun g => ?_)⟩ (fun z hz => ?_) hl
  · rw [ha.2] at hr2 ⊢
    have hr3 : r2 = (C1, T, N) := Option.some.inj (hr2.symm.trans hc)
    subst hr3
    exact j_tset hob
  · exfalso; rcases ha.1 with h | h <;> rw [h] at g <;> simp at g
  · exfalso; rcases ha.1 with h | h <;> rw [h] at g <;> simp at g
  · rcases List.mem_append.mp hz with h | h
    · exact hL z h
    · rw [List.mem_singleton.mp h]
      exact (hR.1.2 a).1 hne
theorem j_putVN (C : jC p l s m args meth c G own cc nL) {C1 host : String} {T : u_T} {N i a index : Nat} {ty0 : Nat → FieldType} {v : Value} (k : Nat) (hc : vwCl[i]? = some (C1, T, N)) (hin : ∀ w ∈ u_ws C1 T N, w ∈ TB) (hty : ∀ k, k < N → parseFieldDescriptor (T k).2.2.1 = some (ty0 k)) (hnm : ∀ a, a < N → ∀ b, b < N → a ≠ b → (T a).2.1 ≠ (T b).2.1) (hk : k < N) (hlink : Cond.fieldLinkNest own index (T k).1 (T k).2.1 (T k).2.2.1 host ∈ TB) (hfin : (T k).2.2.2 = false) (hn : narrow (ty0 k) v = v) (hfit : fits (ty0 k) v = true)
    (ha : ((σ.1 a).1 = 1 ∨ (σ.1 a).1 = 3) ∧ (σ.1 a).2.1 = i) (hok : (σ.1 a).1 = 1 → j_ok σ.1 (j_fT i k) v) (hdg : decode cc pc = .ok (.putfield index, 3))
    (kk : jd p l e R s m args below meth c G nL Q k1 k2 (pV σ a k v) (pc + 3) lv st) : jd p l e R s m args below meth c G nL Q k1 k2 σ pc lv (v :: .ref a :: st) := by
  intro H locs ls hR hL hl
  have hap := va_apart (own := own) C.1.2.2.2.2 hin ty0 hty hnm C.2.1 hc
  obtain ⟨r, h1, hN, cell, q1, q2, q3, q4⟩ := (hR.1.2 a).2.1 ha.1
  rw [ha.2] at h1 q2 q4
  have hr : r = (C1, T, N) := Option.some.inj (h1.symm.trans hc)
  subst hr
  obtain ⟨hS, hfc, kC, hkC, hkind⟩ := C.2.1.1 i _ hc
  obtain ⟨cf, kf, fi, f, hi, hsl⟩ := hS k hk
  have hlay := C.1.2.2.2.2 _ (hin _ (u_in_lay hk))
  unfold u_lay at hlay
  rw [if_neg (by rw [hfin]; decide)] at hlay
  have hst := (u_facts hfc hkC (u_lays C.1.2.2.2.2 hin hk) hi).1
  have h6 := u_store hfc hkC hkind hlay hi (hty k hk) hn hfit
  have hne : (σ.1 a).1 ≠ 0 := by rcases ha.1 with h | h <;> rw [h] <;> decide
  refine va_WputK C.1.1 C.1.2.1 (f := f) C.1.2.2.2.1 (C.1.2.2.2.2 _ hlink) hi hst (by rw [q2]; exact h6) q1 q3 (by rw [hsl]; exact k2_hasslot (q4 k hk)) rfl rfl hdg fun H' e1 e2 e3 => ?_
  rw [hsl] at e1 ⊢
  have hob : t_OB a (G.1.1 i) N (G.1.2 i) H' (updV (σ.2 a) k v) := ⟨_, e1, q2, q3, t_set q4 hap hk v⟩
  refine kk H' _ ls ⟨jRp_put hR.1 hne (by first | exact ha.1.elim Or.inl (fun h => Or.inr (Or.inr (Or.inl h))) | exact Or.inr (Or.inr (Or.inl ha.1))) e2 e3 (fun g r2 hr2 => ?_) (fun g => ?_), jWT_put hR.2 (fun g => by rw [ha.2]; exact hok g) (fun g => ?_)⟩ (fun z hz => ?_) hl
  · rw [ha.2] at hr2 ⊢
    have hr3 : r2 = (C1, T, N) := Option.some.inj (hr2.symm.trans hc)
    subst hr3
    exact j_tset hob
  · exfalso; rcases ha.1 with h | h <;> rw [h] at g <;> simp at g
  · exfalso; rcases ha.1 with h | h <;> rw [h] at g <;> simp at g
  · rcases List.mem_append.mp hz with h | h
    · exact hL z h
    · rw [List.mem_singleton.mp h]
      exact (hR.1.2 a).1 hne
/-- a final field is written in a constructor of its class -/
theorem j_putF (C : jC p l s m args meth c G own cc nL) {T : u_T} {N i a index : Nat} {ty0 : Nat → FieldType} {v : Value} (hin2 : meth.name = "<init>") (k : Nat) (hc : vwCl[i]? = some (own, T, N)) (hin : ∀ w ∈ u_ws own T N, w ∈ TB) (hty : ∀ k, k < N → parseFieldDescriptor (T k).2.2.1 = some (ty0 k)) (hnm : ∀ a, a < N → ∀ b, b < N → a ≠ b → (T a).2.1 ≠ (T b).2.1) (hk : k < N) (hlink : Cond.fieldLink own index (T k).1 (T k).2.1 (T k).2.2.1 ∈ TB) (hfin : (T k).2.2.2 = true) (hdecl : (T k).1 = own) (hn : narrow (ty0 k) v = v) (hfit : fits (ty0 k) v = true)
    (ha : (σ.1 a).1 = 3 ∧ (σ.1 a).2.1 = i) (hdg : decode cc pc = .ok (.putfield index, 3))
    (kk : jd p l e R s m args below meth c G nL Q k1 k2 (pV σ a k v) (pc + 3) lv st) : jd p l e R s m args below meth c G nL Q k1 k2 σ pc lv (v :: .ref a :: st) := by
  intro H locs ls hR hL hl
  have hap := va_apart (own := own) C.1.2.2.2.2 hin ty0 hty hnm C.2.1 hc
  obtain ⟨r, h1, hN, cell, q1, q2, q3, q4⟩ := (hR.1.2 a).2.1 (Or.inr ha.1)
  rw [ha.2] at h1 q2 q4
  have hr : r = (own, T, N) := Option.some.inj (h1.symm.trans hc)
  subst hr
  obtain ⟨hS, hfc, kC, hkC, hkind⟩ := C.2.1.1 i _ hc
  obtain ⟨cf, kf, fi, f, hi, hsl⟩ := hS k hk
  have hlay := C.1.2.2.2.2 _ (hin _ (u_in_lay hk))
  unfold u_lay at hlay
  rw [if_pos hfin] at hlay
  have hst := (u_facts hfc hkC (u_lays C.1.2.2.2.2 hin hk) hi).1
  have hcf : m.cls = cf := by
    obtain ⟨_, _, c', _, _, _, -, -, hf', -, -, -, hown2, -⟩ := Cond.laysFinal_spec hlay
    have e1 : c' = cf := by have := hi.symm.trans hf'; simp at this; exact this.1.symm
    rw [hdecl] at hown2
    rw [← e1]; exact Option.some.inj (C.1.2.2.2.1.symm.trans hown2)
  have h6 := u_fits hfc hkC hkind (Or.inr hlay) hi (hty k hk) hn hfit
  have hne : (σ.1 a).1 ≠ 0 := by rw [ha.1]; decide
  refine W.putFinK C.1.1 C.1.2.1 C.1.2.2.2.1 (C.1.2.2.2.2 _ hlink) hi hst hcf hin2 (by rw [q2]; exact h6) q1 q3 (by rw [hsl]; exact k2_hasslot (q4 k hk)) rfl rfl hdg fun H' e1 e2 e3 => ?_
  rw [hsl] at e1 ⊢
  have hob : t_OB a (G.1.1 i) N (G.1.2 i) H' (updV (σ.2 a) k v) := ⟨_, e1, q2, q3, t_set q4 hap hk v⟩
  refine kk H' _ ls ⟨jRp_put hR.1 hne (by first | exact ha.1.elim Or.inl (fun h => Or.inr (Or.inr (Or.inl h))) | exact Or.inr (Or.inr (Or.inl ha.1))) e2 e3 (fun g r2 hr2 => ?_) (fun g => ?_), jWT_put hR.2 (fun g => ?_) (fun g => ?_)⟩ (fun z hz => ?_) hl
  · rw [ha.2] at hr2 ⊢
    have hr3 : r2 = (own, T, N) := Option.some.inj (hr2.symm.trans hc)
    subst hr3
    exact j_tset hob
  · exfalso; rw [ha.1] at g; simp at g
  · exfalso; rw [ha.1] at g; simp at g
  · exfalso; rw [ha.1] at g; simp at g
  · rcases List.mem_append.mp hz with h | h
    · exact hL z h
    · rw [List.mem_singleton.mp h]
      exact (hR.1.2 a).1 hne
theorem j_at {H : Heap} (hR : jR G H σ) {a t n : Nat} (ha : σ.1 a = (2, t, n) ∨ σ.1 a = (4, t, n)) : t < 8 ∧ H[a]? = some (arrV (G.2.1 t) n (σ.2 a)) := by
  have h := (hR.1.2 a).2.2.1 (by rcases ha with h | h <;> rw [h] <;> simp)
  rcases ha with h1 | h1 <;> rw [h1] at h <;> exact h
theorem j_iald (C : jC p l s m args meth c G own cc nL) {a n : Nat} {i : Int32} (ha : σ.1 a = (2, 0, n)) (hin : vp_in i n) (hdg : decode cc pc = .ok (.iaload, 1)) (kk : jd p l e R s m args below meth c G nL Q k1 k2 σ (pc + 1) lv (.int (gI σ a i.toNatClampNeg) :: st)) : jd p l e R s m args below meth c G nL Q k1 k2 σ pc lv (.int i :: .ref a :: st) := by
  intro H locs ls hR hL hl
  have hlt : i.toNatClampNeg < n := Nat.not_le.mp fun q => hin (Or.inr q)
  obtain ⟨h8, hc⟩ := j_at hR (Or.inl ha)
  have hv := (hR.2 a i.toNatClampNeg).2 (by rw [ha]) (by rw [ha]; exact hlt)
  rw [ha] at hv
  exact W.iald (v := .int (gI σ a i.toNatClampNeg)) C.1.1 C.1.2.1 hc ((C.2.1.2 0 _ (jtys_at G (t := 0) (by decide))).1 n (σ.2 a)) (fun q => by cases q) (by rw [arrV_size]; exact hin) (by rw [arrV_read _ _ hlt, j_int hv rfl]) rfl rfl hdg (kk H locs ls hR hL hl)
theorem j_cald (C : jC p l s m args meth c G own cc nL) {a n : Nat} {i : Int32} (ha : σ.1 a = (2, 1, n)) (hin : vp_in i n) (hdg : decode cc pc = .ok (.caload, 1)) (kk : jd p l e R s m args below meth c G nL Q k1 k2 σ (pc + 1) lv (.int (gI σ a i.toNatClampNeg) :: st)) : jd p l e R s m args below meth c G nL Q k1 k2 σ pc lv (.int i :: .ref a :: st) := by
  intro H locs ls hR hL hl
  have hlt : i.toNatClampNeg < n := Nat.not_le.mp fun q => hin (Or.inr q)
  obtain ⟨h8, hc⟩ := j_at hR (Or.inl ha)
  have hv := (hR.2 a i.toNatClampNeg).2 (by rw [ha]) (by rw [ha]; exact hlt)
  rw [ha] at hv
  exact W.cald (v := .int (gI σ a i.toNatClampNeg)) C.1.1 C.1.2.1 hc ((C.2.1.2 1 _ (jtys_at G (t := 1) (by decide))).1 n (σ.2 a)) (fun q => by cases q) (by rw [arrV_size]; exact hin) (by rw [arrV_read _ _ hlt, (j_chr hv rfl).1]) rfl rfl hdg (kk H locs ls hR hL hl)
theorem j_aaldV (C : jC p l s m args meth c G own cc nL) {a t n x : Nat} {C1 : String} {i : Int32} (hty : j_aty t = .object C1) (ha : σ.1 a = (2, t, n) ∨ σ.1 a = (4, t, n)) (hin : vp_in i n) (hdg : decode cc pc = .ok (.aaload, 1)) (kk : jd p l e R s m args below meth c G nL Q k1 k2 σ (pc + 1) lv (σ.2 a i.toNatClampNeg :: st)) : jd p l e R s m args below meth c G nL Q k1 k2 σ pc lv (.int i :: .ref a :: st) := by
  intro H locs ls hR hL hl
  have hlt : i.toNatClampNeg < n := Nat.not_le.mp fun q => hin (Or.inr q)
  obtain ⟨h8, hc⟩ := j_at hR ha
  exact W.aald (v := σ.2 a i.toNatClampNeg) (ty := j_aty t) C.1.1 C.1.2.1 hc ((C.2.1.2 t _ (jtys_at G h8)).1 n (σ.2 a)) (by rw [hty]; rfl) (fun q => by cases q) (by rw [arrV_size]; exact hin) (by rw [arrV_read _ _ hlt]) rfl rfl hdg (kk H locs ls hR hL hl)
theorem j_aald (C : jC p l s m args meth c G own cc nL) {a t n : Nat} {C1 : String} {i : Int32} (hty : j_aty t = .object C1) (he : jIsR (j_eT t) = true) (ha : σ.1 a = (2, t, n)) (hin : vp_in i n) (hdg : decode cc pc = .ok (.aaload, 1)) (kk : σ.1 (gR σ a i.toNatClampNeg) = j_eT t → jd p l e R s m args below meth c G nL Q k1 k2 σ (pc + 1) lv (.ref (gR σ a i.toNatClampNeg) :: st)) : jd p l e R s m args below meth c G nL Q k1 k2 σ pc lv (.int i :: .ref a :: st) := by
  have hlt : i.toNatClampNeg < n := Nat.not_le.mp fun q => hin (Or.inr q)
  refine jd_wt fun hw => j_aaldV (x := 0) C hty (Or.inl ha) hin hdg ?_
  have hv := (hw a i.toNatClampNeg).2 (by rw [ha]) (by rw [ha]; exact hlt)
  rw [ha] at hv
  obtain ⟨h1, h2⟩ := j_ref hv he
  rw [h1]
  exact kk h2
theorem j_alen (C : jC p l s m args meth c G own cc nL) {a t n : Nat} (ha : σ.1 a = (2, t, n)) (hdg : decode cc pc = .ok (.arraylength, 1)) (kk : jd p l e R s m args below meth c G nL Q k1 k2 σ (pc + 1) lv (.int (Int32.ofNat n) :: st)) : jd p l e R s m args below meth c G nL Q k1 k2 σ pc lv (.ref a :: st) := by
  intro H locs ls hR hL hl
  obtain ⟨h8, hc⟩ := j_at hR (Or.inl ha)
  exact W.alen (n := Int32.ofNat n) C.1.1 C.1.2.1 hc ((C.2.1.2 t _ (jtys_at G h8)).1 n (σ.2 a)) (by rw [arrV_size] <;> rfl) rfl rfl hdg (kk H locs ls hR hL hl)
theorem jR_apush {G : jG} {H H' : Heap} {σ : jH} {a t n j : Nat} {v : Value} (hR : jR G H σ) (ha : σ.1 a = (2, t, n) ∨ σ.1 a = (4, t, n)) (hok : σ.1 a = (2, t, n) → j_ok σ.1 (j_eT t) v) (e1 : H'[a]? = some ((arrV (G.2.1 t) n (σ.2 a)).setSlot j v)) (z : H'.size = H.size) (oq : ∀ q : Nat, q ≠ a → H'[q]? = H[q]?) : jR G H' (pV σ a j v) := by
  have hne : (σ.1 a).1 ≠ 0 := by rcases ha with h | h <;> rw [h] <;> simp
  refine ⟨jRp_put hR.1 hne (by rcases ha with h | h <;> rw [h] <;> simp) z oq (fun g => ?_) (fun g => ?_), jWT_put hR.2 (fun g => ?_) (fun g => ?_)⟩
  · exfalso; rcases ha with h | h <;> rw [h] at g <;> simp at g
  · have e2 : (pV σ a j v).2 a = updV (σ.2 a) j v := by
      funext q
      by_cases hq : q = j
      · subst hq; simp [updV, pV]
      · simp [updV, pV, hq]
    rw [e1, arrV_store, e2]
    rcases ha with h | h <;> rw [h]
  · exfalso; rcases ha with h | h <;> rw [h] at g <;> simp at g
  · rcases ha with h | h
    · have := hok h; rw [h]; exact this
    · rw [h] at g; simp at g
theorem j_iast (C : jC p l s m args meth c G own cc nL) {a n : Nat} {i x : Int32} (ha : σ.1 a = (2, 0, n)) (hin : vp_in i n) (hdg : decode cc pc = .ok (.iastore, 1)) (kk : jd p l e R s m args below meth c G nL Q k1 k2 (pV σ a i.toNatClampNeg (.int x)) (pc + 1) lv st) : jd p l e R s m args below meth c G nL Q k1 k2 σ pc lv (.int x :: .int i :: .ref a :: st) := by
  intro H locs ls hR hL hl
  obtain ⟨h8, hc⟩ := j_at hR (Or.inl ha)
  refine W.iast C.1.1 C.1.2.1 hc ((C.2.1.2 0 _ (jtys_at G (t := 0) (by decide))).1 n (σ.2 a)) (fun q => by cases q) (by rw [arrV_size]; exact hin) rfl rfl hdg fun H1 e1 z oq => ?_
  refine kk H1 _ ls (jR_apush hR (Or.inl ha) (fun _ => ⟨x, rfl⟩) e1 z oq) (fun q hq => ?_) hl
  rcases List.mem_append.mp hq with h | h
  · exact hL q h
  · rw [List.mem_singleton.mp h]
    exact (hR.1.2 a).1 (by rw [ha]; simp)
theorem j_cast (C : jC p l s m args meth c G own cc nL) {a n : Nat} {i x : Int32} (ha : σ.1 a = (2, 1, n)) (hin : vp_in i n) (hx : narrow .char (.int x) = .int x) (hdg : decode cc pc = .ok (.castore, 1)) (kk : jd p l e R s m args below meth c G nL Q k1 k2 (pV σ a i.toNatClampNeg (.int x)) (pc + 1) lv st) : jd p l e R s m args below meth c G nL Q k1 k2 σ pc lv (.int x :: .int i :: .ref a :: st) := by
  intro H locs ls hR hL hl
  obtain ⟨h8, hc⟩ := j_at hR (Or.inl ha)
  refine W.cast C.1.1 C.1.2.1 hc ((C.2.1.2 1 _ (jtys_at G (t := 1) (by decide))).1 n (σ.2 a)) (fun q => by cases q) (by rw [arrV_size]; exact hin) rfl rfl hdg fun H1 e1 z oq => ?_
  rw [hx] at e1
  refine kk H1 _ ls (jR_apush hR (Or.inl ha) (fun _ => ⟨x, rfl, hx⟩) e1 z oq) (fun q hq => ?_) hl
  rcases List.mem_append.mp hq with h | h
  · exact hL q h
  · rw [List.mem_singleton.mp h]
    exact (hR.1.2 a).1 (by rw [ha]; simp)
end JHEAP
