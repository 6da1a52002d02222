/-! ===== the machine over a pure heap: what it is ===== -/
/-- the words that every method here is given: those of the tables that hold on from a caller to its callee -/
def TB_ok (w : Cond) : Bool := goodWord w || (match w with
  | .fieldLinkNest _ _ _ _ _ _ => true
  | .methodLinkNest _ _ _ _ => true
  | .not (.castable _ _) => true
  | .arrayOver (.object _) => true
  | _ => false)
def TB : List Cond := lw_tbl.filter TB_ok
theorem TB_in {w : Cond} (h : w ∈ lw_tbl) (ho : TB_ok w = true) : w ∈ TB := List.mem_filter.mpr ⟨h, ho⟩
theorem TB_at {i : Nat} {w : Cond} (h : lw_tbl[i]? = some w) (ho : TB_ok w = true) : w ∈ TB := TB_in (List.mem_of_getElem? h) ho
theorem TB_one {args a' : Array Value} {s U : State} (hW : s.WarmedH U.vm) {w : Cond} (ho : TB_ok w = true) (h : w.before args s = true) : w.before a' U = true := by
  unfold TB_ok at ho
  rw [Bool.or_eq_true] at ho
  rcases ho with h1 | h1
  · exact word_at hW (good_of_word h1) h
  · match w, h1, h with
    | .fieldLinkNest _ _ _ _ _ _, _, h => exact va_Nw.use rfl (va_Nw.warmF hW (va_Nw.of rfl h))
    | .methodLinkNest _ _ _ _, _, h => exact va_Nw.use rfl (va_Nw.warmM hW (va_Nw.of rfl h))
    | .not (.castable a b), _, h =>
      have h2 := Cond.castAtom_setVm (args := args) hW.alike (.not (.castable a b)) rfl h
      exact h2
    | .arrayOver (.object C), _, h => exact va_AO.use (va_AO.moved hW.alike (va_AO.of h))
theorem TB_pay {args : Array Value} {s : State} (hts : ∀ w ∈ TB, w.before args s = true) : ∀ w ∈ TB, ∀ (a' : Array Value) (U : State), s.WarmedH U.vm → w.before a' U = true :=
  fun w hw _ _ hW => TB_one hW (List.mem_filter.mp hw).2 (hts w hw)
abbrev jH : Type := (Nat → Nat × Nat × Nat) × (Nat → Nat → Value)
abbrev jG : Type := va_G × (Nat → ClassId) × Heap
def jbase (G : jG) : Nat := G.2.2.size
def j_aty (t : Nat) : FieldType := match t with
  | 0 => .int
  | 1 => .char
  | 2 => .byte
  | 3 => .long
  | 4 => .double
  | 5 => .object RX0
  | 6 => .object RX4
  | _ => .object RX5
def jtys (G : jG) : List (ClassId × FieldType) := (List.range 8).map (fun t => (G.2.1 t, j_aty t))
theorem jtys_at (G : jG) {t : Nat} (h : t < 8) : (jtys G)[t]? = some (G.2.1 t, j_aty t) := by simp [jtys, h]
/-- what a slot of an object of class i holds: 0 an int, 1 an object, 2 an array, 5 an array of any length, 9 a long, 10 a double -/
def j_fT (i j : Nat) : Nat × Nat × Nat := match i, j with
  | 1, 0 => (5, 2, 0)
  | 4, 1 => (2, 0, 16)
  | 5, 0 => (2, 0, 16)
  | 5, 1 => (2, 0, 16)
  | 5, 2 => (2, 0, 16)
  | 5, 3 => (1, 7, 2)
  | 6, 0 => (2, 1, 60)
  | 6, 2 => (2, 0, 60)
  | 6, 3 => (2, 0, 180)
  | 7, 0 => (2, 0, 16)
  | 8, 5 => (2, 1, 16)
  | 8, 6 => (2, 0, 16)
  | 8, 7 => (2, 0, 16)
  | 9, 0 => (2, 0, 4)
  | 9, 1 => (2, 5, 5)
  | 9, 3 => (2, 6, 6)
  | 10, 0 => (1, 9, 11)
  | 10, 1 => (1, 9, 11)
  | 10, 2 => (1, 9, 11)
  | 10, 4 => (2, 7, 8)
  | 10, 6 => (1, 5, 4)
  | 10, 7 => (1, 6, 5)
  | 10, 10 => (1, 1, 4)
  | 11, 5 => (2, 0, 457)
  | 11, 6 => (2, 0, 457)
  | 11, 7 => (2, 0, 457)
  | 11, 8 => (2, 0, 3656)
  | 11, 9 => (2, 0, 16)
  | 11, 10 => (2, 0, 16)
  | 11, 11 => (2, 0, 60)
  | 11, 12 => (2, 0, 70)
  | 11, 13 => (2, 0, 10)
  | 11, 14 => (2, 0, 57)
  | 11, 15 => (2, 0, 11)
  | _, _ => (0, 0, 0)
/-- what an array of type t holds -/
def j_eT (t : Nat) : Nat × Nat × Nat := match t with
  | 3 => (9, 0, 0)
  | 4 => (10, 0, 0)
  | 5 => (1, 4, 2)
  | 6 => (1, 8, 8)
  | 7 => (1, 9, 11)
  | _ => (0, 0, 0)
def j_ok (sh : Nat → Nat × Nat × Nat) (e : Nat × Nat × Nat) (v : Value) : Prop :=
  if e.1 = 0 then ∃ x, v = .int x else if e.1 = 9 then ∃ x, v = .long x else if e.1 = 10 then ∃ x, v = .double x
  else if e.1 = 5 then ∃ r, v = .ref r ∧ (sh r).1 = 2 ∧ (sh r).2.1 = e.2.1 else ∃ r, v = .ref r ∧ sh r = e
/-- the cells as the pure heap has them: kinds 1 and 3 objects, 2 and 4 arrays (3 and 4: while they are made); below the base all is as it was -/
def jRp (G : jG) (H : Heap) (σ : jH) : Prop :=
  ((∀ q : Nat, q < jbase G → H[q]? = G.2.2[q]?) ∧ jbase G ≤ H.size) ∧ ∀ a : Nat,
    ((σ.1 a).1 ≠ 0 → jbase G ≤ a) ∧
    ((σ.1 a).1 = 1 ∨ (σ.1 a).1 = 3 → ∃ r : vw_C, vwCl[(σ.1 a).2.1]? = some r ∧ r.2.2 = (σ.1 a).2.2 ∧ t_OB a (G.1.1 (σ.1 a).2.1) r.2.2 (G.1.2 (σ.1 a).2.1) H (σ.2 a)) ∧
    ((σ.1 a).1 = 2 ∨ (σ.1 a).1 = 4 → (σ.1 a).2.1 < 8 ∧ H[a]? = some (arrV (G.2.1 (σ.1 a).2.1) (σ.1 a).2.2 (σ.2 a)))
def jWT (σ : jH) : Prop := ∀ a j : Nat, ((σ.1 a).1 = 1 → j < (σ.1 a).2.2 → j_ok σ.1 (j_fT (σ.1 a).2.1 j) (σ.2 a j)) ∧ ((σ.1 a).1 = 2 → j < (σ.1 a).2.2 → j_ok σ.1 (j_eT (σ.1 a).2.1) (σ.2 a j))
def jR (G : jG) (H : Heap) (σ : jH) : Prop := jRp G H σ ∧ jWT σ
def gI (σ : jH) (a j : Nat) : Int32 := match σ.2 a j with
  | .int x => x
  | _ => 0
def gL (σ : jH) (a j : Nat) : Int64 := match σ.2 a j with
  | .long x => x
  | _ => 0
def gD (σ : jH) (a j : Nat) : UInt64 := match σ.2 a j with
  | .double x => x
  | _ => 0
def gR (σ : jH) (a j : Nat) : Nat := match σ.2 a j with
  | .ref x => x
  | _ => 0
def pV (σ : jH) (a j : Nat) (v : Value) : jH := (σ.1, fun b k => if b = a ∧ k = j then v else σ.2 b k)
theorem pV_sh (σ : jH) (a j : Nat) (v : Value) : (pV σ a j v).1 = σ.1 := rfl
theorem gI_pV (σ : jH) (a j : Nat) (x : Int32) (b k : Nat) : gI (pV σ a j (.int x)) b k = if b = a ∧ k = j then x else gI σ b k := by
  unfold gI pV
  by_cases h : b = a ∧ k = j <;> simp [h]
theorem gR_pV (σ : jH) (a j : Nat) (x : Int32) (b k : Nat) (h : ¬ (b = a ∧ k = j)) : gR (pV σ a j (.int x)) b k = gR σ b k := by
  unfold gR pV
  simp [h]
theorem j_int {σ : jH} {a j : Nat} {e : Nat × Nat × Nat} (h : j_ok σ.1 e (σ.2 a j)) (he : e.1 = 0) : σ.2 a j = .int (gI σ a j) := by
  unfold j_ok at h
  rw [if_pos he] at h
  obtain ⟨x, hx⟩ := h
  unfold gI
  rw [hx]
theorem j_long {σ : jH} {a j : Nat} {e : Nat × Nat × Nat} (h : j_ok σ.1 e (σ.2 a j)) (he : e.1 = 9) : σ.2 a j = .long (gL σ a j) := by
  unfold j_ok at h
  rw [if_neg (by omega), if_pos he] at h
  obtain ⟨x, hx⟩ := h
  unfold gL
  rw [hx]
theorem j_double {σ : jH} {a j : Nat} {e : Nat × Nat × Nat} (h : j_ok σ.1 e (σ.2 a j)) (he : e.1 = 10) : σ.2 a j = .double (gD σ a j) := by
  unfold j_ok at h
  rw [if_neg (by omega), if_neg (by omega), if_pos he] at h
  obtain ⟨x, hx⟩ := h
  unfold gD
  rw [hx]
theorem j_ref {σ : jH} {a j : Nat} {e : Nat × Nat × Nat} (h : j_ok σ.1 e (σ.2 a j)) (he : e.1 = 1 ∨ e.1 = 2) : σ.2 a j = .ref (gR σ a j) ∧ σ.1 (gR σ a j) = e := by
  unfold j_ok at h
  rw [if_neg (by omega), if_neg (by omega), if_neg (by omega), if_neg (by omega)] at h
  obtain ⟨x, hx, h2⟩ := h
  have e1 : gR σ a j = x := by unfold gR; rw [hx]
  rw [e1]
  exact ⟨hx, h2⟩
theorem j_ref5 {σ : jH} {a j : Nat} {e : Nat × Nat × Nat} (h : j_ok σ.1 e (σ.2 a j)) (he : e.1 = 5) : σ.2 a j = .ref (gR σ a j) ∧ (σ.1 (gR σ a j)).1 = 2 ∧ (σ.1 (gR σ a j)).2.1 = e.2.1 := by
  unfold j_ok at h
  rw [if_neg (by omega), if_neg (by omega), if_neg (by omega), if_pos he] at h
  obtain ⟨x, hx, h2⟩ := h
  have e1 : gR σ a j = x := by unfold gR; rw [hx]
  rw [e1]
  exact ⟨hx, h2⟩
theorem jWT_put {σ : jH} {a j : Nat} {v : Value} (h : jWT σ) (h1 : (σ.1 a).1 = 1 → j_ok σ.1 (j_fT (σ.1 a).2.1 j) v) (h2 : (σ.1 a).1 = 2 → j_ok σ.1 (j_eT (σ.1 a).2.1) v) : jWT (pV σ a j v) := by
  intro b k
  by_cases hb : b = a ∧ k = j
  · obtain ⟨rfl, rfl⟩ := hb
    refine ⟨fun g1 _ => ?_, fun g1 _ => ?_⟩
    · have e : (pV σ b k v).2 b k = v := by simp [pV]
      rw [e]; exact h1 g1
    · have e : (pV σ b k v).2 b k = v := by simp [pV]
      rw [e]; exact h2 g1
  · have e : (pV σ a j v).2 b k = σ.2 b k := by simp [pV, hb]
    rw [e]
    exact h b k
/-- a cell is written, the others stay -/
theorem jRp_put {G : jG} {H H' : Heap} {σ : jH} {a j : Nat} {v : Value} (h : jRp G H σ) (ha : (σ.1 a).1 ≠ 0) (hz : H'.size = H.size) (ho : ∀ q : Nat, q ≠ a → H'[q]? = H[q]?)
    (h1 : (σ.1 a).1 = 1 ∨ (σ.1 a).1 = 3 → ∀ r : vw_C, vwCl[(σ.1 a).2.1]? = some r → t_OB a (G.1.1 (σ.1 a).2.1) r.2.2 (G.1.2 (σ.1 a).2.1) H' ((pV σ a j v).2 a))
    (h2 : (σ.1 a).1 = 2 ∨ (σ.1 a).1 = 4 → H'[a]? = some (arrV (G.2.1 (σ.1 a).2.1) (σ.1 a).2.2 ((pV σ a j v).2 a))) : jRp G H' (pV σ a j v) := by
  obtain ⟨⟨h3, h4⟩, h5⟩ := h
  refine ⟨⟨fun q hq => ?_, by rw [hz]; exact h4⟩, fun b => ⟨(h5 b).1, fun g => ?_, fun g => ?_⟩⟩
  · rw [ho q (fun e => by subst e; have := (h5 q).1 ha; omega)]
    exact h3 q hq
  · obtain ⟨r, r1, r2, r3⟩ := (h5 b).2.1 g
    by_cases hb : b = a
    · subst hb
      exact ⟨r, r1, r2, h1 g r r1⟩
    · refine ⟨r, r1, r2, ?_⟩
      have e : (pV σ a j v).2 b = σ.2 b := by funext k; simp [pV, hb]
      rw [e]
      exact r3.kept (ho b hb)
  · by_cases hb : b = a
    · subst hb
      exact ⟨((h5 b).2.2 g).1, h2 g⟩
    · have e : (pV σ a j v).2 b = σ.2 b := by funext k; simp [pV, hb]
      rw [e, ho b hb]
      exact (h5 b).2.2 g
/-- the text constants that the methods here load: class, place, text -/
def jstrs : List (String × Nat × String) := []
/-- what else is known of the machine: no stack traces; the two statics that a throw reads; where the text constants are -/
def jE (l : Launch) (G : jG) (U : State) : Prop := l.stackTraces = false ∧ vx_Zq Bundle.tN "UNASSIGNED_STACK" Bundle.steD (fun q => jbase G ≤ q) U G.2.2 ∧ vx_Zq Bundle.tN "SUPPRESSED_SENTINEL" Bundle.listD (fun q => jbase G ≤ q) U G.2.2 ∧ ∀ q ∈ jstrs, ∃ a, vk_R q.1 q.2.1 q.2.2 a U
theorem jE.moved {l : Launch} {G : jG} {s U : State} (hW : s.WarmedH U.vm) (h : jE l G s) : jE l G U := ⟨h.1, h.2.1.moved hW.alike, h.2.2.1.moved hW.alike, fun q hq => by
  obtain ⟨a, ha⟩ := h.2.2.2 q hq
  exact ⟨a, ha.warm hW⟩⟩
theorem jE.same {l : Launch} {G : jG} {s U : State} (hv : U.vm = s.vm) (h : jE l G s) : jE l G U := ⟨h.1, h.2.1.moved (by rw [hv]; exact Vm.Alike.refl _), h.2.2.1.moved (by rw [hv]; exact Vm.Alike.refl _), fun q hq => by
  obtain ⟨a, ha⟩ := h.2.2.2 q hq
  exact ⟨a, ha.same hv⟩⟩
