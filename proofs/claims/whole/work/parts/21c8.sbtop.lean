/-! ===== a text is opened for the machine's own code, and closed again ===== -/
theorem jSet_set (F : jFm) (s1 s2 : jSh) : jSet (jSet F s1) s2 = jSet F s2 := by
  obtain ⟨p, l, e, R, s, m, args, below, meth, c, G, sh, Qr, Qx, mc, ms, Q⟩ := F; rfl
/-- the shapes while the text at a lies open: its object and its row of bytes; all others without a promise -/
def opS (sh : jSh) (a q L : Nat) : jSh := fun b => if b = a then (1, 1, 4) else if b = q then (2, 2, L) else ((if (sh b).1 = 1 then 3 else if (sh b).1 = 2 then 4 else (sh b).1), (sh b).2)
def opK (κ : jKt) (a q : Nat) (g bs : Nat → Value) : jKt := fun b k => if b = a then g k else if b = q then bs k else κ b k
theorem opS_a (sh : jSh) (a q L : Nat) : opS sh a q L a = (1, 1, 4) := if_pos rfl
theorem opS_q (sh : jSh) {a q : Nat} (L : Nat) (h : q ≠ a) : opS sh a q L q = (2, 2, L) := (if_neg h).trans (if_pos rfl)
theorem opS_n (sh : jSh) {a q b : Nat} (L : Nat) (h : b ≠ a) (h2 : b ≠ q) : opS sh a q L b = ((if (sh b).1 = 1 then 3 else if (sh b).1 = 2 then 4 else (sh b).1), (sh b).2) := (if_neg h).trans (if_neg h2)
theorem opK_a (κ : jKt) (a q : Nat) (g bs : Nat → Value) : opK κ a q g bs a = g := funext fun _ => if_pos rfl
theorem opK_q (κ : jKt) {a q : Nat} (g bs : Nat → Value) (h : q ≠ a) : opK κ a q g bs q = bs := funext fun _ => (if_neg h).trans (if_pos rfl)
theorem opK_n (κ : jKt) {a q b : Nat} (g bs : Nat → Value) (h : b ≠ a) (h2 : b ≠ q) : opK κ a q g bs b = κ b := funext fun _ => (if_neg h).trans (if_neg h2)
/-- what is known of the text at a, whose bytes lie at q -/
def jOpn (G : jG) (sh : jSh) (κ : jKt) (a q L n : Nat) (g bs : Nat → Value) : Prop :=
  q ≠ a ∧ ((sh q).1 ≠ 1 ∧ (sh q).1 ≠ 2 ∧ (sh q).1 ≠ 3 ∧ (sh q).1 ≠ 4 ∧ (sh q).1 ≠ 6) ∧ jbase G ≤ q ∧ κ a 0 = .int (oN n) ∧ SBs (opS sh a q L) (opK κ a q g bs) a q L n ∧ (∃ x, g 2 = .int x) ∧
  (∀ j, j < n → ∃ x : Int32, κ a (j + 1) = .int x ∧ 0 ≤ x ∧ x < 256 ∧ bs j = narrow .byte (.int x)) ∧ (∀ b, (sh b).1 = 6 → b = a) ∧ jWT (sh, κ) ∧ ∀ b, (sh b).1 ≠ 0 → jbase G ≤ b
/-- what one cell of the heap must be, what one value must be -/
def jCl (G : jG) (H : Heap) (sh : jSh) (f : Nat → Value) (b : Nat) (e : Nat × Nat × Nat) : Prop :=
  (e.1 ≠ 0 → jbase G ≤ b) ∧ (e.1 = 1 ∨ e.1 = 3 → ∃ r : vw_C, vwCl[e.2.1]? = some r ∧ r.2.2 = e.2.2 ∧ t_OB b (G.1.1 e.2.1) r.2.2 (G.1.2 e.2.1) H f) ∧
  (e.1 = 2 ∨ e.1 = 4 → e.2.1 < 8 ∧ H[b]? = some (arrV (G.2.1 e.2.1) e.2.2 f)) ∧ (e.1 = 6 → jTx G H sh f b)
def jWl (sh : jSh) (e : Nat × Nat × Nat) (v : Value) (j : Nat) : Prop := (e.1 = 1 → j < e.2.2 → j_ok sh (j_fT e.2.1 j) v) ∧ (e.1 = 2 → j < e.2.2 → j_ok sh (j_eT e.2.1) v)
theorem jR_open {G : jG} {H : Heap} {sh : jSh} {κ : jKt} {a : Nat} (hR : jR G H (sh, κ)) (ha : sh a = (6, 0, 0)) : ∃ q L n g bs, jOpn G sh κ a q L n g bs ∧ jR G H (opS sh a q L, opK κ a q g bs) := by
  obtain ⟨q, L, n, bs, g, g1, g2, g3, g4, g5, g6, g7, g8, g9, g10, g11, g12, g13, g14⟩ := (hR.1.2 a).2.2.2 (by show (sh a).1 = 6; rw [ha])
  have hqa : q ≠ a := fun z => g2.2.2.2.2 (by show (sh q).1 = 6; rw [z, ha])
  have hb0 : ∀ b, (sh b).1 ≠ 0 → jbase G ≤ b := fun b hb => (hR.1.2 b).1 hb
  have hab : jbase G ≤ a := hb0 a (by rw [ha]; decide)
  have eA := opS_a sh a q L
  have eQ := opS_q sh L hqa
  refine ⟨q, L, n, g, bs, ⟨hqa, g2, g1, g5, ⟨eA, ?_, eQ, ?_, ?_, g3, ?_, g4⟩, g9, g13, g14, hR.2, hb0⟩, ⟨⟨hR.1.1, fun b => ?_⟩, fun b j => ?_⟩⟩
  · rw [opK_a]; exact g7
  · unfold kI; rw [opK_a, g8]
  · unfold kI; rw [opK_a, g10]
  · rw [opK_q κ g bs hqa]; exact g12
  · show jCl G H (opS sh a q L) (opK κ a q g bs b) b (opS sh a q L b)
    by_cases h1 : b = a
    · subst h1
      rw [eA, opK_a]
      exact ⟨fun _ => hab, fun _ => ⟨(RJ4, TJ4, 4), rfl, rfl, g6⟩, fun h => (by rcases h with h | h <;> cases h), fun h => (by cases h)⟩
    · by_cases h2 : b = q
      · subst h2
        rw [eQ, opK_q κ g bs hqa]
        exact ⟨fun _ => g1, fun h => (by rcases h with h | h <;> cases h), fun _ => ⟨by show 2 < 8; decide, g11⟩, fun h => (by cases h)⟩
      · rw [opS_n sh L h1 h2, opK_n κ g bs h1 h2]
        obtain ⟨p0, p1, p2, p6⟩ := hR.1.2 b
        have k1 : (if (sh b).1 = 1 then 3 else if (sh b).1 = 2 then 4 else (sh b).1) = 3 → (sh b).1 = 1 ∨ (sh b).1 = 3 := fun h => by split at h <;> (try split at h) <;> omega
        have k2 : (if (sh b).1 = 1 then 3 else if (sh b).1 = 2 then 4 else (sh b).1) = 4 → (sh b).1 = 2 ∨ (sh b).1 = 4 := fun h => by split at h <;> (try split at h) <;> omega
        have k3 : (if (sh b).1 = 1 then 3 else if (sh b).1 = 2 then 4 else (sh b).1) ≠ 1 := by split <;> (try split) <;> omega
        have k4 : (if (sh b).1 = 1 then 3 else if (sh b).1 = 2 then 4 else (sh b).1) ≠ 2 := by split <;> (try split) <;> omega
        have k0 : (if (sh b).1 = 1 then 3 else if (sh b).1 = 2 then 4 else (sh b).1) ≠ 0 → (sh b).1 ≠ 0 := fun h => by split at h <;> (try split at h) <;> omega
        have k6 : (if (sh b).1 = 1 then 3 else if (sh b).1 = 2 then 4 else (sh b).1) = 6 → (sh b).1 = 6 := fun h => by split at h <;> (try split at h) <;> omega
        exact ⟨fun h => p0 (k0 h), fun h => p1 (h.elim (fun h => absurd h k3) k1), fun h => p2 (h.elim (fun h => absurd h k4) k2), fun h => absurd (g14 b (k6 h)) h1⟩
  · show jWl (opS sh a q L) (opS sh a q L b) (opK κ a q g bs b j) j
    by_cases h1 : b = a
    · subst h1
      rw [eA, opK_a]
      refine ⟨fun _ hj => ?_, fun h => (by cases h)⟩
      have hj4 : j < 4 := hj
      have : j = 0 ∨ j = 1 ∨ j = 2 ∨ j = 3 := by omega
      rcases this with h | h | h | h <;> subst h
      · exact ⟨q, g7, by rw [eQ], by rw [eQ]; rfl⟩
      · exact ⟨0, g8⟩
      · exact g9
      · exact ⟨_, g10⟩
    · by_cases h2 : b = q
      · subst h2
        rw [eQ, opK_q κ g bs hqa]
        refine ⟨fun h => (by cases h), fun _ hj => ?_⟩
        obtain ⟨x, e, -⟩ := g12 j hj
        exact ⟨x, e⟩
      · rw [opS_n sh L h1 h2]
        have k3 : (if (sh b).1 = 1 then 3 else if (sh b).1 = 2 then 4 else (sh b).1) ≠ 1 := by split <;> (try split) <;> omega
        have k4 : (if (sh b).1 = 1 then 3 else if (sh b).1 = 2 then 4 else (sh b).1) ≠ 2 := by split <;> (try split) <;> omega
        exact ⟨fun h => absurd h k3, fun h => absurd h k4⟩
theorem jR_close {G : jG} {H : Heap} {sh : jSh} {κ κr : jKt} {a q L n q' L' n' : Nat} {g bs : Nat → Value} {sh' : jSh} {κ' : jKt} (ha : sh a = (6, 0, 0)) (hO : jOpn G sh κ a q L n g bs) (hR : jR G H (sh', κ')) (hS : SBs sh' κ' a q' L' n') (hk : SBk G (opS sh a q L) (opK κ a q g bs) sh' κ' a q q')
    (hr : ∀ b, b ≠ a → ∀ k, κr b k = κ b k) (h0 : κr a 0 = .int (oN n')) (hl : ∀ j, j < n' → ∃ x : Int32, κr a (j + 1) = .int x ∧ 0 ≤ x ∧ x < 256 ∧ κ' q' j = narrow .byte (.int x)) : jR G H (sh, κr) := by
  obtain ⟨o1, o2, o3, o4, o5, o6, o7, o8, o9, o10⟩ := hO
  obtain ⟨s1, s2, s3, s4, s5, s6, s7, s8⟩ := hS
  obtain ⟨k1, k2⟩ := hk
  have hqa' : q' ≠ a := fun z => by rw [z, s1] at s3; cases s3
  -- what lies at q' has no promise of its own
  have hq' : (sh q').1 ≠ 1 ∧ (sh q').1 ≠ 2 ∧ (sh q').1 ≠ 3 ∧ (sh q').1 ≠ 4 ∧ (sh q').1 ≠ 6 := by
    rcases k2 with z | z
    · rw [z]; exact o2
    · by_cases y : q' = q
      · rw [y]; exact o2
      · obtain ⟨f1, f2, f3, f4, f6⟩ := z.1
        have e : (opS sh a q L q').1 = (if (sh q').1 = 1 then 3 else if (sh q').1 = 2 then 4 else (sh q').1) := by rw [opS_n sh L hqa' y]
        have e' : ((opS sh a q L, opK κ a q g bs).1 q').1 = (opS sh a q L q').1 := rfl
        rw [e', e] at f1 f2 f3 f4 f6
        refine ⟨fun h => f3 (by rw [if_pos h]), fun h => f4 (by rw [if_neg (by omega), if_pos h]), fun h => f3 (by rw [if_neg (by omega), if_neg (by omega)]; exact h), fun h => f4 (by rw [if_neg (by omega), if_neg (by omega)]; exact h), fun h => f6 (by rw [if_neg (by omega), if_neg (by omega)]; exact h)⟩
  have hqb : jbase G ≤ q' := by
    rcases k2 with z | z
    · rw [z]; exact o3
    · exact z.2
  have er : ∀ b, b ≠ a → κr b = κ b := fun b hb => funext (hr b hb)
  -- another cell with a promise is as it was
  have keep : ∀ b, b ≠ a → ((sh b).1 = 1 ∨ (sh b).1 = 2 ∨ (sh b).1 = 3 ∨ (sh b).1 = 4) → sh' b = ((if (sh b).1 = 1 then 3 else if (sh b).1 = 2 then 4 else (sh b).1), (sh b).2) ∧ κ' b = κ b := fun b hb h => by
    have hbq : b ≠ q := fun z => by rw [z] at h; omega
    have hbq' : b ≠ q' := fun z => by rw [z] at h; omega
    obtain ⟨c1, c2⟩ := k1 b hb hbq'
    refine ⟨c1.trans (opS_n sh L hb hbq), funext fun k => (c2 k).trans ?_⟩
    rw [opK_n κ g bs hb hbq]
  refine ⟨⟨hR.1.1, fun b => ⟨fun h => o10 b h, fun h => ?_, fun h => ?_, fun h => ?_⟩⟩, fun b j => ?_⟩
  · have h' : (sh b).1 = 1 ∨ (sh b).1 = 3 := h
    have hb : b ≠ a := fun z => by rw [z, ha] at h'; rcases h' with h' | h' <;> cases h'
    obtain ⟨c1, c2⟩ := keep b hb (by omega)
    obtain ⟨r, r1, r2, r3⟩ := (hR.1.2 b).2.1 (Or.inr (by show (sh' b).1 = 3; rw [c1]; show (if (sh b).1 = 1 then 3 else _) = 3; rcases h' with h' | h' <;> simp [h']))
    have e : (sh' b).2 = (sh b).2 := by rw [c1]
    have r1' : vwCl[(sh' b).2.1]? = some r := r1
    have r2' : r.2.2 = (sh' b).2.2 := r2
    have r3' : t_OB b (G.1.1 (sh' b).2.1) r.2.2 (G.1.2 (sh' b).2.1) H (κ' b) := r3
    rw [e] at r1' r2' r3'
    refine ⟨r, r1', r2', ?_⟩
    show t_OB b (G.1.1 (sh b).2.1) r.2.2 (G.1.2 (sh b).2.1) H (κr b)
    rw [er b hb, ← c2]; exact r3'
  · have h' : (sh b).1 = 2 ∨ (sh b).1 = 4 := h
    have hb : b ≠ a := fun z => by rw [z, ha] at h'; rcases h' with h' | h' <;> cases h'
    obtain ⟨c1, c2⟩ := keep b hb (by omega)
    obtain ⟨r1, r2⟩ := (hR.1.2 b).2.2.1 (Or.inr (by show (sh' b).1 = 4; rw [c1]; show (if (sh b).1 = 1 then 3 else if (sh b).1 = 2 then 4 else _) = 4; rcases h' with h' | h' <;> simp [h']))
    have e : (sh' b).2 = (sh b).2 := by rw [c1]
    have r1' : (sh' b).2.1 < 8 := r1
    have r2' : H[b]? = some (arrV (G.2.1 (sh' b).2.1) (sh' b).2.2 (κ' b)) := r2
    rw [e] at r1' r2'
    refine ⟨r1', ?_⟩
    show H[b]? = some (arrV (G.2.1 (sh b).2.1) (sh b).2.2 (κr b))
    rw [er b hb, ← c2]; exact r2'
  · have hb : b = a := o8 b h
    subst hb
    obtain ⟨r, r1, r2, r3⟩ := (hR.1.2 b).2.1 (Or.inl (by show (sh' b).1 = 1; rw [s1]))
    have r1' : vwCl[(sh' b).2.1]? = some r := r1
    have r3' : t_OB b (G.1.1 (sh' b).2.1) r.2.2 (G.1.2 (sh' b).2.1) H (κ' b) := r3
    rw [s1] at r1' r3'
    have hr1 : r = (RJ4, TJ4, 4) := Option.some.inj (r1'.symm.trans (show vwCl[1]? = some (RJ4, TJ4, 4) from rfl))
    subst hr1
    obtain ⟨-, a2⟩ := (hR.1.2 q').2.2.1 (Or.inl (by show (sh' q').1 = 2; rw [s3]))
    have a2' : H[q']? = some (arrV (G.2.1 (sh' q').2.1) (sh' q').2.2 (κ' q')) := a2
    rw [s3] at a2'
    have w : ∀ k, k < 4 → k ≠ 0 → ∃ x, κ' b k = .int x := fun k hk hk0 => by
      have h9 := (hR.2 b k).1 (by show (sh' b).1 = 1; rw [s1]) (by show k < (sh' b).2.2; rw [s1]; exact hk)
      have h8 : j_ok sh' (j_fT (sh' b).2.1 k) (κ' b k) := h9
      rw [s1] at h8
      have : k = 1 ∨ k = 2 ∨ k = 3 := by omega
      rcases this with h | h | h <;> subst h <;> exact h8
    obtain ⟨x1, e1⟩ := w 1 (by decide) (by decide)
    obtain ⟨x3, e3⟩ := w 3 (by decide) (by decide)
    have f1 : x1 = 0 := by unfold kI at s4; rw [e1] at s4; exact s4
    have f3 : x3 = oN n' := by unfold kI at s5; rw [e3] at s5; exact s5
    exact ⟨q', L', n', κ' q', κ' b, hqb, hq', s6, s8, h0, r3', s2, by rw [e1, f1], w 2 (by decide) (by decide), by rw [e3, f3], a2', s7, hl, o8⟩
  · refine ⟨fun h hj => ?_, fun h hj => ?_⟩
    · have h' : (sh b).1 = 1 := h
      have hb : b ≠ a := fun z => by rw [z, ha] at h'; cases h'
      show j_ok sh (j_fT (sh b).2.1 j) (κr b j)
      rw [er b hb]
      exact (o9 b j).1 h hj
    · have h' : (sh b).1 = 2 := h
      have hb : b ≠ a := fun z => by rw [z, ha] at h'; cases h'
      show j_ok sh (j_eT (sh b).2.1) (κr b j)
      rw [er b hb]
      exact (o9 b j).2 h hj
section JOPEN
variable {F : jFm} {own : String} {cc : ByteArray} {nL k1 k2 fr mc ms lo pc : Nat} {ret : Option FieldType} {κ : jKt} {lv lv' : List (Nat × Value)} {st : List Value}
theorem r_open {a : Nat} (ha : jSof F a = (6, 0, 0)) (kk : ∀ q L n g bs, jOpn (jGof F) (jSof F) κ a q L n g bs → jW (jSet F (opS (jSof F) a q L)) nL k1 k2 (opK κ a q g bs) pc lv st) : jW F nL k1 k2 κ pc lv st := by
  obtain ⟨p, l, e, R, s, m, args, below, meth, c, G, sh, Qr, Qx, mc, ms, Q⟩ := F
  intro H locs ls hR hL hl
  obtain ⟨q, L, n, g, bs, h1, h2⟩ := jR_open hR ha
  exact kk q L n g bs h1 H locs ls h2 hL hl
theorem r_close {a q L n q' L' n' : Nat} {g bs : Nat → Value} {sh' : jSh} {κ' κr : jKt} (ha : jSof F a = (6, 0, 0)) (hO : jOpn (jGof F) (jSof F) κ a q L n g bs) (hS : SBs sh' κ' a q' L' n') (hk : SBk (jGof F) (opS (jSof F) a q L) (opK κ a q g bs) sh' κ' a q q')
    (hr : ∀ b, b ≠ a → ∀ k, κr b k = κ b k) (h0 : κr a 0 = .int (oN n')) (hl : ∀ j, j < n' → ∃ x : Int32, κr a (j + 1) = .int x ∧ 0 ≤ x ∧ x < 256 ∧ κ' q' j = narrow .byte (.int x)) (kk : jW F nL k1 k2 κr pc lv st) : jW (jSet F sh') nL k1 k2 κ' pc lv st := by
  obtain ⟨p, l, e, R, s, m, args, below, meth, c, G, sh, Qr, Qx, mc, ms, Q⟩ := F
  intro H locs ls hR hL hl'
  exact kk H locs ls (jR_close ha hO hR hS hk hr h0 hl) hL hl'
end JOPEN
