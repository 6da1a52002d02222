/-! ===== arrays and objects are made ===== -/
def jMade (σ : jH) (a : Nat) (e : Nat × Nat × Nat) (f : Nat → Value) : jH := (fun b => if b = a then e else σ.1 b, fun b k => if b = a then f k else σ.2 b k)
/-- nothing lies at a -/
def jFree (G : jG) (σ : jH) (a : Nat) : Prop := ((σ.1 a).1 ≠ 1 ∧ (σ.1 a).1 ≠ 2 ∧ (σ.1 a).1 ≠ 3 ∧ (σ.1 a).1 ≠ 4 ∧ (σ.1 a).1 ≠ 6) ∧ jbase G ≤ a
theorem jMade_a (σ : jH) (a : Nat) (e : Nat × Nat × Nat) (f : Nat → Value) : (jMade σ a e f).1 a = e ∧ ∀ k, (jMade σ a e f).2 a k = f k := ⟨if_pos rfl, fun _ => if_pos rfl⟩
theorem jMade_n (σ : jH) {a b : Nat} (e : Nat × Nat × Nat) (f : Nat → Value) (h : b ≠ a) : (jMade σ a e f).1 b = σ.1 b ∧ ∀ k, (jMade σ a e f).2 b k = σ.2 b k := ⟨if_neg h, fun _ => if_neg h⟩
theorem j_fT_k (i j : Nat) : (j_fT i j).1 = 0 ∨ (j_fT i j).1 = 1 ∨ (j_fT i j).1 = 2 ∨ (j_fT i j).1 = 5 ∨ (j_fT i j).1 = 6 := by
  unfold j_fT
  split <;> simp
theorem j_eT_k (t : Nat) : (j_eT t).1 = 0 ∨ (j_eT t).1 = 1 ∨ (j_eT t).1 = 3 ∨ (j_eT t).1 = 9 ∨ (j_eT t).1 = 10 := by
  unfold j_eT
  split <;> simp
/-- a value keeps its kind under shapes that keep what lies there -/
theorem j_okM {sh sh' : Nat → Nat × Nat × Nat} {e : Nat × Nat × Nat} {v : Value} (hs : ∀ r, (sh r).1 = 1 ∨ (sh r).1 = 2 ∨ (sh r).1 = 6 → sh' r = sh r) (hk : e.1 = 0 ∨ e.1 = 1 ∨ e.1 = 2 ∨ e.1 = 3 ∨ e.1 = 5 ∨ e.1 = 6 ∨ e.1 = 9 ∨ e.1 = 10) (h : j_ok sh e v) : j_ok sh' e v := by
  unfold j_ok at h ⊢
  by_cases h0 : e.1 = 0
  · rw [if_pos h0] at h ⊢; exact h
  rw [if_neg h0] at h ⊢
  by_cases h9 : e.1 = 9
  · rw [if_pos h9] at h ⊢; exact h
  rw [if_neg h9] at h ⊢
  by_cases h10 : e.1 = 10
  · rw [if_pos h10] at h ⊢; exact h
  rw [if_neg h10] at h ⊢
  by_cases h3 : e.1 = 3
  · rw [if_pos h3] at h ⊢; exact h
  rw [if_neg h3] at h ⊢
  by_cases h5 : e.1 = 5
  · rw [if_pos h5] at h ⊢
    obtain ⟨r, r1, r2, r3⟩ := h
    have := hs r (Or.inr (Or.inl r2))
    exact ⟨r, r1, by rw [this]; exact r2, by rw [this]; exact r3⟩
  · rw [if_neg h5] at h ⊢
    obtain ⟨r, r1, r2⟩ := h
    have := hs r (by rw [r2]; omega)
    exact ⟨r, r1, by rw [this]; exact r2⟩
theorem jR_none {G : jG} {H : Heap} {σ : jH} (hR : jR G H σ) {a : Nat} (ha : H.size ≤ a) : jFree G σ a := by
  have hn : H[a]? = none := Array.getElem?_eq_none ha
  refine ⟨?_, Nat.le_trans hR.1.1.2 ha⟩
  obtain ⟨-, h1, h2, h6⟩ := hR.1.2 a
  refine ⟨fun g => ?_, fun g => ?_, fun g => ?_, fun g => ?_, fun g => ?_⟩
  · obtain ⟨r, -, -, cell, q, -⟩ := h1 (Or.inl g)
    rw [hn] at q; cases q
  · have := (h2 (Or.inl g)).2
    rw [hn] at this; cases this
  · obtain ⟨r, -, -, cell, q, -⟩ := h1 (Or.inr g)
    rw [hn] at q; cases q
  · have := (h2 (Or.inr g)).2
    rw [hn] at this; cases this
  · obtain ⟨q, L, n9, bs, gg, g1, g2, g3, g4, g5, g6, -⟩ := h6 g
    obtain ⟨cell, q, -⟩ := g6
    rw [hn] at q; cases q
/-- what lies at the new address -/
def jNew (G : jG) (H' : Heap) (sh : Nat → Nat × Nat × Nat) (a : Nat) (e : Nat × Nat × Nat) (f : Nat → Value) : Prop :=
  (e.1 = 3 ∧ ∃ r : vw_C, vwCl[e.2.1]? = some r ∧ r.2.2 = e.2.2 ∧ t_OB a (G.1.1 e.2.1) r.2.2 (G.1.2 e.2.1) H' f) ∨
  ((e.1 = 2 ∨ e.1 = 4) ∧ (e.2.1 < 8 ∧ H'[a]? = some (arrV (G.2.1 e.2.1) e.2.2 f)) ∧ (e.1 = 2 → ∀ j, j < e.2.2 → j_ok sh (j_eT e.2.1) (f j)))
theorem jR_made {G : jG} {H H' : Heap} {σ : jH} {a : Nat} {e : Nat × Nat × Nat} {f : Nat → Value} (hR : jR G H σ) (ha : a = H.size) (hz : H.size ≤ H'.size) (ho : ∀ q : Nat, q < H.size → H'[q]? = H[q]?) (hN : jNew G H' σ.1 a e f) : jR G H' (jMade σ a e f) := by
  have hF := jR_none hR (a := a) (by omega)
  have hG := jR_grow hR hz ho
  have lt : ∀ (b : Nat) (x : Cell), H[b]? = some x → b < H.size := fun b x hx => (Array.getElem?_eq_some_iff.mp hx).1
  have hs : ∀ r, (σ.1 r).1 = 1 ∨ (σ.1 r).1 = 2 ∨ (σ.1 r).1 = 6 → (jMade σ a e f).1 r = σ.1 r := by
    intro r hr
    have hne : r ≠ a := by
      intro q
      subst q
      obtain ⟨n1, n2, n3, n4, n6⟩ := hF.1
      rcases hr with g | g | g
      · exact n1 g
      · exact n2 g
      · exact n6 g
    exact (jMade_n σ e f hne).1
  have e2 : ∀ b, b ≠ a → (jMade σ a e f).2 b = σ.2 b := by
    intro b hb
    exact funext (fun k => (jMade_n σ e f hb).2 k)
  have e2a : (jMade σ a e f).2 a = f := funext (fun k => (jMade_a σ a e f).2 k)
  have kT : ∀ i j, (j_fT i j).1 = 0 ∨ (j_fT i j).1 = 1 ∨ (j_fT i j).1 = 2 ∨ (j_fT i j).1 = 3 ∨ (j_fT i j).1 = 5 ∨ (j_fT i j).1 = 6 ∨ (j_fT i j).1 = 9 ∨ (j_fT i j).1 = 10 := by
    intro i j
    rcases j_fT_k i j with h | h | h | h | h <;> simp [h]
  have kE : ∀ i, (j_eT i).1 = 0 ∨ (j_eT i).1 = 1 ∨ (j_eT i).1 = 2 ∨ (j_eT i).1 = 3 ∨ (j_eT i).1 = 5 ∨ (j_eT i).1 = 6 ∨ (j_eT i).1 = 9 ∨ (j_eT i).1 = 10 := by
    intro i
    rcases j_eT_k i with h | h | h | h | h <;> simp [h]
  refine ⟨⟨hG.1.1, fun b => ?_⟩, fun b j => ?_⟩
  · by_cases hb : b = a
    · subst hb
      rw [(jMade_a σ b e f).1, e2a]
      refine ⟨fun _ => hF.2, fun g => ?_, fun g => ?_, fun g => ?_⟩
      · rcases hN with ⟨-, h⟩ | ⟨h, -⟩
        · exact h
        · rcases g with g | g <;> rcases h with h | h <;> rw [g] at h <;> cases h
      · rcases hN with ⟨h, -⟩ | ⟨-, h, -⟩
        · rcases g with g | g <;> rw [g] at h <;> cases h
        · exact h
      · rcases hN with ⟨h, -⟩ | ⟨h | h, -⟩ <;> rw [g] at h <;> cases h
    · rw [(jMade_n σ e f hb).1, e2 b hb]
      obtain ⟨p1, p2, p3, -⟩ := hG.1.2 b
      refine ⟨p1, p2, p3, fun g => ?_⟩
      obtain ⟨q, L, n9, bs, gg, g1, g2, g3, g4, g5, g6, g7, g8, g9, g10, g11, g12, g13, g14⟩ := (hR.1.2 b).2.2.2 g
      have hq := lt q _ g11
      obtain ⟨cell, q1, -⟩ := id g6
      refine ⟨q, L, n9, bs, gg, g1, ?_, g3, g4, g5, g6.kept (ho b (lt b _ q1)), g7, g8, g9, g10, by rw [ho q hq]; exact g11, g12, g13, ?_⟩
      rotate_left 1
      · intro b2 hb2
        by_cases hz : b2 = a
        · rw [hz, (jMade_a σ a e f).1] at hb2
          rcases hN with ⟨h, -⟩ | ⟨h | h, -⟩ <;> rw [hb2] at h <;> cases h
        · rw [(jMade_n σ e f hz).1] at hb2; exact g14 b2 hb2
      have hne : q ≠ a := by
        intro z
        rw [z, ha] at hq
        exact Nat.lt_irrefl _ hq
      rw [(jMade_n σ e f hne).1]; exact g2
  · by_cases hb : b = a
    · subst hb
      rw [(jMade_a σ b e f).1, e2a]
      refine ⟨fun g => ?_, fun g hj => ?_⟩
      · rcases hN with ⟨h, -⟩ | ⟨h | h, -⟩ <;> rw [g] at h <;> cases h
      · rcases hN with ⟨h, -⟩ | ⟨-, -, h⟩
        · rw [g] at h; cases h
        · exact j_okM hs (kE _) (h g j hj)
    · rw [(jMade_n σ e f hb).1, e2 b hb]
      obtain ⟨p1, p2⟩ := hR.2 b j
      exact ⟨fun g hj => j_okM hs (kT _ _) (p1 g hj), fun g hj => j_okM hs (kE _) (p2 g hj)⟩
section JMAKE
variable {p : Program} {l : Launch} {e : Env} {R : Room} {s : State} {m : MethodId} {args : Array Value} {below : List Frame} {meth : Method} {c : Code} {Q : State → Prop} {G : jG} {own : String} {cc : ByteArray} {nL k1 k2 : Nat} {σ : jH} {pc : Nat} {lv lv' : List (Nat × Value)} {st st0 : List Value}
/-- a row of numbers is made -/
theorem j_newa (C : jC p l s m args meth c G own cc nL) {t : Nat} (ht : t < 5) {atype : ArrayType} (hty : newarray.typeOf atype = j_aty t) (harr : Cond.arrayClass (j_aty t) ∈ TB) {n : Int32} {N : Nat} (hn : ¬ n < 0) (hN : n.toNatClampNeg = N) (hb : N ≤ 65536) (hf : k1 + 1 ≤ R.cells ∧ k2 + N ≤ R.slots) (hdg : decode cc pc = .ok (.newarray atype, 2))
    (kk : ∀ a, jFree G σ a → jd p l e R s m args below meth c G nL Q (k1 + 1) (k2 + N) (jMade σ a (2, t, N) (fun _ => defaultValue (j_aty t))) (pc + 2) lv (.ref a :: st)) : jd p l e R s m args below meth c G nL Q k1 k2 σ pc lv (.int n :: st) := by
  intro H locs ls hR hL hl
  have hts := C.1.2.2.2.2
  have hbytes : N * componentBytes (newarray.typeOf atype) ≤ 536870912 := by
    rw [hty]
    have : componentBytes (j_aty t) ≤ 8 := by
      have : t = 0 ∨ t = 1 ∨ t = 2 ∨ t = 3 ∨ t = 4 := by omega
      rcases this with h | h | h | h | h <;> subst h <;> decide
    exact Nat.le_trans (Nat.mul_le_mul hb this) (by decide)
  refine va_newaK C.1.1 C.1.2.1 (atype := atype) (by rw [hty]; exact hts _ harr) rfl hdg rfl hn hN hbytes hf.1 hf.2 rfl fun H' cA e1 z1 o1 hAr hNm => ?_
  have hcA : G.2.1 t = cA := by
    have h8 := (C.2.1.2 t _ (jtys_at G (t := t) (by omega))).2
    have : t = 0 ∨ t = 1 ∨ t = 2 ∨ t = 3 ∨ t = 4 := by omega
    rcases this with h | h | h | h | h <;> subst h <;> (rw [hty] at hNm; exact Option.some.inj (h8.symm.trans hNm))
  have hok : ∀ j, j < N → j_ok σ.1 (j_eT t) (defaultValue (j_aty t)) := by
    intro j _
    have : t = 0 ∨ t = 1 ∨ t = 2 ∨ t = 3 ∨ t = 4 := by omega
    rcases this with h | h | h | h | h <;> subst h
    · exact ⟨0, rfl⟩
    · exact ⟨0, rfl, rfl⟩
    · exact ⟨0, rfl⟩
    · exact ⟨0, rfl⟩
    · exact ⟨_, rfl⟩
  have hR' : jR G H' (jMade σ H.size (2, t, N) (fun _ => defaultValue (j_aty t))) := by
    refine jR_made hR rfl (by omega) o1 (Or.inr ⟨Or.inl rfl, ⟨by show t < 8; omega, ?_⟩, fun _ j hj => hok j hj⟩)
    show H'[H.size]? = some (arrV (G.2.1 t) N _)
    rw [hcA, e1, hty]
  exact kk H.size (jR_none hR (Nat.le_refl _)) H' locs ls hR' hL hl
end JMAKE
