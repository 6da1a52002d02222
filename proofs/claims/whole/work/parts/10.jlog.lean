/-! ===== the machine over a pure heap: what it is ===== -/
/-- the words that every method here is given: those of the tables that hold on from a caller to its callee -/
def TB_ok (w : Cond) : Bool := goodWord w || (match w with
  | .fieldLinkNest _ _ _ _ _ _ => true
  | .methodLinkNest _ _ _ _ => true
  | .not (.castable _ _) => true
  | .castable _ _ => true
  | .declares _ => true
  | .arrayOver (.object _) => true
  | .privateMethod _ => true
  | _ => false)
def TB : List Cond := lw_tbl.filter TB_ok
theorem TB_in {w : Cond} (h : w ∈ lw_tbl) (ho : TB_ok w = true) : w ∈ TB := List.mem_filter.mpr ⟨h, ho⟩
theorem TB_at {i : Nat} {w : Cond} (h : lw_tbl[i]? = some w) (ho : TB_ok w = true) : w ∈ TB := TB_in (List.mem_of_getElem? h) ho
theorem priv_keep {s U : State} {args a' : Array Value} {y : MethodName} (hW : s.WarmedH U.vm) (h: (Cond.privateMethod y).before args s = true) : (Cond.privateMethod y).before a' U = true := by
  have e1 : U.methodNamed? y = s.methodNamed? y := State.methodNamed?_setVm (s := s) hW.alike y
  have e2 : U.vm.method? = s.vm.method? := funext fun m => hW.alike.method? m
  simp only [Cond.before, Cond.holds, Cond.value] at h ⊢
  rw [e1, e2]
  exact h
theorem TB_one {args a' : Array Value} {s U : State} (hW : s.WarmedH U.vm) {w : Cond} (ho : TB_ok w = true) (h : w.before args s = true) : w.before a' U = true := by
  unfold TB_ok at ho
  rw [Bool.or_eq_true] at ho
  rcases ho with h1 | h1
  · exact word_at hW (good_of_word h1) h
  · match w, h1, h with
    | .fieldLinkNest _ _ _ _ _ _, _, h => exact va_Nw.use rfl (va_Nw.warmF hW (va_Nw.of rfl h))
    | .methodLinkNest _ _ _ _, _, h => exact va_Nw.use rfl (va_Nw.warmM hW (va_Nw.of rfl h))
    | .castable _ _, _, h => exact va_Nw.use rfl (va_Nw.warmC hW (va_Nw.of rfl h))
    | .declares _, _, h => exact va_Nw.use rfl (va_Nw.warmD hW (va_Nw.of rfl h))
    | .not (.castable a b), _, h =>
      have h2 := Cond.castAtom_setVm (args := args) hW.alike (.not (.castable a b)) rfl h
      exact h2
    | .arrayOver (.object C), _, h => exact va_AO.use (va_AO.moved hW.alike (va_AO.of h))
    | .privateMethod y, _, h => exact priv_keep hW h
theorem TB_pay {args : Array Value} {s : State} (hts : ∀ w ∈ TB, w.before args s = true) : ∀ w ∈ TB, ∀ (a' : Array Value) (U : State), s.WarmedH U.vm → w.before a' U = true :=
  fun w hw _ _ hW => TB_one hW (List.mem_filter.mp hw).2 (hts w hw)
abbrev jH : Type := (Nat → Nat × Nat × Nat) × (Nat → Nat → Value)
abbrev jG : Type := va_G × (Nat → ClassId) × Heap × (Nat → Nat) × (Nat → Nat)
def jbase (G : jG) : Nat := G.2.2.1.size
def j_aty (t : Nat) : FieldType := match t with
  | 0 => .int
  | 1 => .char
  | 2 => .byte
  | 3 => .long
  | 4 => .double
  | 5 => .object RX0
  | 6 => .object RX4
  | _ => .object RX5
def jtys (G : jG) : List (ClassId × FieldType) := (List.range 8).map (fun t => (G.2.1 t, j_aty t))
theorem jtys_at (G : jG) {t : Nat} (h : t < 8) : (jtys G)[t]? = some (G.2.1 t, j_aty t) := by simp [jtys, h]
/-- what a slot of an object of class i holds: 0 an int, 1 an object, 2 an array, 5 an array of any length, 9 a long, 10 a double -/
def j_fT (i j : Nat) : Nat × Nat × Nat := match i, j with
  | 1, 0 => (5, 2, 0)
  | 4, 1 => (2, 0, 16)
  | 5, 0 => (2, 0, 16)
  | 5, 1 => (2, 0, 16)
  | 5, 2 => (2, 0, 16)
  | 5, 3 => (1, 7, 2)
  | 6, 0 => (2, 1, 60)
  | 6, 2 => (2, 0, 60)
  | 6, 3 => (2, 0, 180)
  | 7, 0 => (2, 0, 16)
  | 8, 5 => (2, 1, 16)
  | 8, 6 => (2, 0, 16)
  | 8, 7 => (2, 0, 16)
  | 9, 0 => (2, 0, 4)
  | 9, 1 => (2, 5, 5)
  | 9, 3 => (2, 6, 6)
  | 10, 0 => (1, 9, 11)
  | 10, 1 => (1, 9, 11)
  | 10, 2 => (1, 9, 11)
  | 10, 4 => (2, 7, 8)
  | 10, 6 => (1, 5, 4)
  | 10, 7 => (1, 6, 5)
  | 10, 10 => (6, 0, 0)
  | 11, 5 => (2, 0, 457)
  | 11, 6 => (2, 0, 457)
  | 11, 7 => (2, 0, 457)
  | 11, 8 => (2, 0, 3656)
  | 11, 9 => (2, 0, 16)
  | 11, 10 => (2, 0, 16)
  | 11, 11 => (2, 0, 60)
  | 11, 12 => (2, 0, 70)
  | 11, 13 => (2, 0, 10)
  | 11, 14 => (2, 0, 57)
  | 11, 15 => (2, 0, 11)
  | _, _ => (0, 0, 0)
/-- what an array of type t holds -/
def j_eT (t : Nat) : Nat × Nat × Nat := match t with
  | 1 => (3, 0, 0)
  | 3 => (9, 0, 0)
  | 4 => (10, 0, 0)
  | 5 => (1, 4, 2)
  | 6 => (1, 8, 8)
  | 7 => (1, 9, 11)
  | _ => (0, 0, 0)
def j_ok (sh : Nat → Nat × Nat × Nat) (e : Nat × Nat × Nat) (v : Value) : Prop :=
  if e.1 = 0 then ∃ x, v = .int x else if e.1 = 9 then ∃ x, v = .long x else if e.1 = 10 then ∃ x, v = .double x
  else if e.1 = 3 then ∃ x, v = .int x ∧ narrow .char (.int x) = .int x else if e.1 = 5 then ∃ r, v = .ref r ∧ (sh r).1 = 2 ∧ (sh r).2.1 = e.2.1 else ∃ r, v = .ref r ∧ sh r = e
/-- a text builder: f 0 its length, f 1, f 2 .. its letters; its row of bytes q is no cell of the pure heap -/
def jTx (G : jG) (H : Heap) (sh : Nat → Nat × Nat × Nat) (f : Nat → Value) (a : Nat) : Prop :=
  ∃ (q L n : Nat) (bs : Nat → Value) (g : Nat → Value), jbase G ≤ q ∧ ((sh q).1 ≠ 1 ∧ (sh q).1 ≠ 2 ∧ (sh q).1 ≠ 3 ∧ (sh q).1 ≠ 4 ∧ (sh q).1 ≠ 6) ∧ n ≤ L ∧ (L = 16 ∨ L = 34 ∨ L = 70 ∨ L = 142) ∧ f 0 = .int (Int32.ofNat n) ∧
    t_OB a (G.1.1 1) 4 (G.1.2 1) H g ∧ g 0 = .ref q ∧ g 1 = .int 0 ∧ (∃ x, g 2 = .int x) ∧ g 3 = .int (Int32.ofNat n) ∧
    H[q]? = some (arrV (G.2.1 2) L bs) ∧ (∀ j, j < L → ∃ x, bs j = .int x ∧ fits .byte (.int x) = true) ∧ (∀ j, j < n → ∃ x : Int32, f (j + 1) = .int x ∧ 0 ≤ x ∧ x < 256 ∧ bs j = narrow .byte (.int x)) ∧ ∀ b, (sh b).1 = 6 → b = a
/-- the cells as the pure heap has them: kinds 1 and 3 objects, 2 and 4 arrays (3 and 4: while they are made); below the base all is as it was -/
def jRp (G : jG) (H : Heap) (σ : jH) : Prop :=
  ((∀ q : Nat, q < jbase G → H[q]? = G.2.2.1[q]?) ∧ jbase G ≤ H.size) ∧ ∀ a : Nat,
    ((σ.1 a).1 ≠ 0 → jbase G ≤ a) ∧
    ((σ.1 a).1 = 1 ∨ (σ.1 a).1 = 3 → ∃ r : vw_C, vwCl[(σ.1 a).2.1]? = some r ∧ r.2.2 = (σ.1 a).2.2 ∧ t_OB a (G.1.1 (σ.1 a).2.1) r.2.2 (G.1.2 (σ.1 a).2.1) H (σ.2 a)) ∧
    ((σ.1 a).1 = 2 ∨ (σ.1 a).1 = 4 → (σ.1 a).2.1 < 8 ∧ H[a]? = some (arrV (G.2.1 (σ.1 a).2.1) (σ.1 a).2.2 (σ.2 a))) ∧
    ((σ.1 a).1 = 6 → jTx G H σ.1 (σ.2 a) a)
def jWT (σ : jH) : Prop := ∀ a j : Nat, ((σ.1 a).1 = 1 → j < (σ.1 a).2.2 → j_ok σ.1 (j_fT (σ.1 a).2.1 j) (σ.2 a j)) ∧ ((σ.1 a).1 = 2 → j < (σ.1 a).2.2 → j_ok σ.1 (j_eT (σ.1 a).2.1) (σ.2 a j))
def jR (G : jG) (H : Heap) (σ : jH) : Prop := jRp G H σ ∧ jWT σ
def gI (σ : jH) (a j : Nat) : Int32 := match σ.2 a j with
  | .int x => x
  | _ => 0
def gL (σ : jH) (a j : Nat) : Int64 := match σ.2 a j with
  | .long x => x
  | _ => 0
def gD (σ : jH) (a j : Nat) : UInt64 := match σ.2 a j with
  | .double x => x
  | _ => 0
def gR (σ : jH) (a j : Nat) : Nat := match σ.2 a j with
  | .ref x => x
  | _ => 0
def pV (σ : jH) (a j : Nat) (v : Value) : jH := (σ.1, fun b k => if b = a ∧ k = j then v else σ.2 b k)
theorem pV_sh (σ : jH) (a j : Nat) (v : Value) : (pV σ a j v).1 = σ.1 := rfl
theorem gI_pV (σ : jH) (a j : Nat) (x : Int32) (b k : Nat) : gI (pV σ a j (.int x)) b k = if b = a ∧ k = j then x else gI σ b k := by
  unfold gI pV
  by_cases h : b = a ∧ k = j <;> simp [h]
theorem gR_pV (σ : jH) (a j : Nat) (x : Int32) (b k : Nat) (h : ¬ (b = a ∧ k = j)) : gR (pV σ a j (.int x)) b k = gR σ b k := by
  unfold gR pV
  simp [h]
theorem j_int {σ : jH} {a j : Nat} {e : Nat × Nat × Nat} (h : j_ok σ.1 e (σ.2 a j)) (he : e.1 = 0) : σ.2 a j = .int (gI σ a j) := by
  unfold j_ok at h
  rw [if_pos he] at h
  obtain ⟨x, hx⟩ := h
  unfold gI
  rw [hx]
theorem j_chr {σ : jH} {a j : Nat} {e : Nat × Nat × Nat} (h : j_ok σ.1 e (σ.2 a j)) (he : e.1 = 3) : σ.2 a j = .int (gI σ a j) ∧ narrow .char (.int (gI σ a j)) = .int (gI σ a j) := by
  unfold j_ok at h
  rw [if_neg (by omega), if_neg (by omega), if_neg (by omega), if_pos he] at h
  obtain ⟨x, hx, h2⟩ := h
  have e1 : gI σ a j = x := by unfold gI; rw [hx]
  rw [e1]
  exact ⟨hx, h2⟩
theorem j_long {σ : jH} {a j : Nat} {e : Nat × Nat × Nat} (h : j_ok σ.1 e (σ.2 a j)) (he : e.1 = 9) : σ.2 a j = .long (gL σ a j) := by
  unfold j_ok at h
  rw [if_neg (by omega), if_pos he] at h
  obtain ⟨x, hx⟩ := h
  unfold gL
  rw [hx]
theorem j_double {σ : jH} {a j : Nat} {e : Nat × Nat × Nat} (h : j_ok σ.1 e (σ.2 a j)) (he : e.1 = 10) : σ.2 a j = .double (gD σ a j) := by
  unfold j_ok at h
  rw [if_neg (by omega), if_neg (by omega), if_pos he] at h
  obtain ⟨x, hx⟩ := h
  unfold gD
  rw [hx]
/-- a slot that holds a reference to a cell of a known kind -/
def jIsR (e : Nat × Nat × Nat) : Bool := e.1 != 0 && e.1 != 9 && e.1 != 10 && e.1 != 3 && e.1 != 5
theorem jIsR_ne {e : Nat × Nat × Nat} (h : jIsR e = true) : e.1 ≠ 0 ∧ e.1 ≠ 9 ∧ e.1 ≠ 10 ∧ e.1 ≠ 3 ∧ e.1 ≠ 5 := by
  unfold jIsR at h
  simp at h
  omega
theorem j_ref {σ : jH} {a j : Nat} {e : Nat × Nat × Nat} (h : j_ok σ.1 e (σ.2 a j)) (he : jIsR e = true) : σ.2 a j = .ref (gR σ a j) ∧ σ.1 (gR σ a j) = e := by
  obtain ⟨n1, n2, n3, n4, n5⟩ := jIsR_ne he
  unfold j_ok at h
  rw [if_neg n1, if_neg n2, if_neg n3, if_neg n4, if_neg n5] at h
  obtain ⟨x, hx, h2⟩ := h
  have e1 : gR σ a j = x := by unfold gR; rw [hx]
  rw [e1]
  exact ⟨hx, h2⟩
theorem j_okR {sh : Nat → Nat × Nat × Nat} {e : Nat × Nat × Nat} {b : Nat} (he : jIsR e = true) (hb : sh b = e) : j_ok sh e (.ref b) := by
  obtain ⟨n1, n2, n3, n4, n5⟩ := jIsR_ne he
  unfold j_ok
  rw [if_neg n1, if_neg n2, if_neg n3, if_neg n4, if_neg n5]
  exact ⟨b, rfl, hb⟩
theorem j_ref5 {σ : jH} {a j : Nat} {e : Nat × Nat × Nat} (h : j_ok σ.1 e (σ.2 a j)) (he : e.1 = 5) : σ.2 a j = .ref (gR σ a j) ∧ (σ.1 (gR σ a j)).1 = 2 ∧ (σ.1 (gR σ a j)).2.1 = e.2.1 := by
  unfold j_ok at h
  rw [if_neg (by omega), if_neg (by omega), if_neg (by omega), if_neg (by omega), if_pos he] at h
  obtain ⟨x, hx, h2⟩ := h
  have e1 : gR σ a j = x := by unfold gR; rw [hx]
  rw [e1]
  exact ⟨hx, h2⟩
theorem jWT_put {σ : jH} {a j : Nat} {v : Value} (h : jWT σ) (h1 : (σ.1 a).1 = 1 → j_ok σ.1 (j_fT (σ.1 a).2.1 j) v) (h2 : (σ.1 a).1 = 2 → j_ok σ.1 (j_eT (σ.1 a).2.1) v) : jWT (pV σ a j v) := by
  intro b k
  by_cases hb : b = a ∧ k = j
  · obtain ⟨rfl, rfl⟩ := hb
    refine ⟨fun g1 _ => ?_, fun g1 _ => ?_⟩
    · have e : (pV σ b k v).2 b k = v := by simp [pV]
      rw [e]; exact h1 g1
    · have e : (pV σ b k v).2 b k = v := by simp [pV]
      rw [e]; exact h2 g1
  · have e : (pV σ a j v).2 b k = σ.2 b k := by simp [pV, hb]
    rw [e]
    exact h b k
/-- a cell is written, the others stay -/
theorem jRp_put {G : jG} {H H' : Heap} {σ : jH} {a j : Nat} {v : Value} (h : jRp G H σ) (ha : (σ.1 a).1 ≠ 0) (hk : (σ.1 a).1 = 1 ∨ (σ.1 a).1 = 2 ∨ (σ.1 a).1 = 3 ∨ (σ.1 a).1 = 4) (hz : H'.size = H.size) (ho : ∀ q : Nat, q ≠ a → H'[q]? = H[q]?)
    (h1 : (σ.1 a).1 = 1 ∨ (σ.1 a).1 = 3 → ∀ r : vw_C, vwCl[(σ.1 a).2.1]? = some r → t_OB a (G.1.1 (σ.1 a).2.1) r.2.2 (G.1.2 (σ.1 a).2.1) H' ((pV σ a j v).2 a))
    (h2 : (σ.1 a).1 = 2 ∨ (σ.1 a).1 = 4 → H'[a]? = some (arrV (G.2.1 (σ.1 a).2.1) (σ.1 a).2.2 ((pV σ a j v).2 a))) : jRp G H' (pV σ a j v) := by
  obtain ⟨⟨h3, h4⟩, h5⟩ := h
  refine ⟨⟨fun q hq => ?_, by rw [hz]; exact h4⟩, fun b => ⟨(h5 b).1, fun g => ?_, fun g => ?_, fun g => ?_⟩⟩
  · rw [ho q (fun e => by subst e; have := (h5 q).1 ha; omega)]
    exact h3 q hq
  · obtain ⟨r, r1, r2, r3⟩ := (h5 b).2.1 g
    by_cases hb : b = a
    · subst hb
      exact ⟨r, r1, r2, h1 g r r1⟩
    · refine ⟨r, r1, r2, ?_⟩
      have e : (pV σ a j v).2 b = σ.2 b := by funext k; simp [pV, hb]
      rw [e]
      exact r3.kept (ho b hb)
  · by_cases hb : b = a
    · subst hb
      exact ⟨((h5 b).2.2.1 g).1, h2 g⟩
    · have e : (pV σ a j v).2 b = σ.2 b := by funext k; simp [pV, hb]
      rw [e, ho b hb]
      exact (h5 b).2.2.1 g
  · have hb : b ≠ a := fun e => by subst e; rcases hk with h | h | h | h <;> rw [show (pV σ b j v).1 = σ.1 from rfl, h] at g <;> omega
    have e : (pV σ a j v).2 b = σ.2 b := by funext k; simp [pV, hb]
    rw [e]
    obtain ⟨q, L, n, bs, gg, g1, g2, g3, g4, g5, g6, g7, g8, g9, g10, g11, g12, g13⟩ := (h5 b).2.2.2 g
    have hq : q ≠ a := by
      intro e
      rw [e] at g2
      rcases hk with h | h | h | h
      · exact g2.1 h
      · exact g2.2.1 h
      · exact g2.2.2.1 h
      · exact g2.2.2.2.1 h
    exact ⟨q, L, n, bs, gg, g1, g2, g3, g4, g5, g6.kept (ho b hb), g7, g8, g9, g10, by rw [ho q hq]; exact g11, g12, g13⟩
/-- the text constants that the methods here load: class, place, text -/
def jstrs : List (String × Nat × String) := [("TailorWorkshop", 81, "no such suit"), ("TailorWorkshop", 88, "no such cloth, customer, leg or sleeve"), ("TailorWorkshop", 93, "an argument is not in its range"), ("TailorWorkshop", 98, "the state does not allow it"), ("TailorWorkshop", 103, "the cloth or the demands do not allow it"), ("TailorWorkshop", 109, "no such cloth"), ("TailorWorkshop", 148, "no such customer"), ("TailorWorkshop", 157, "no such leg"), ("TailorWorkshop", 142, "no such rank"), ("TailorWorkshop", 162, "no such position"), ("TailorWorkshop", 259, "no such sleeve"), ("TailorWorkshop", 264, "the sleeve is planned"), ("TailorWorkshop", 286, "no cloth has been bought"), ("java/lang/StringIndexOutOfBoundsException", 13, "String index out of range: "), ("java/util/Arrays", 337, " > "), ("java/util/Arrays", 48, "fromIndex("), ("java/util/Arrays", 57, ") > toIndex("), ("java/util/Arrays", 59, ")"), ("java/lang/ArrayIndexOutOfBoundsException", 13, "Array index out of range: "), ("TailorWorkshop", 325, "no such index"), ("TailorWorkshop", 331, "not a character that can be typed"), ("TailorWorkshop", 335, "the script buffer is full"), ("TailorWorkshop$Script", 65, "buy # @"), ("TailorWorkshop$Script", 67, "customer # @"), ("TailorWorkshop$Script", 69, "fit # @ @"), ("TailorWorkshop$Script", 71, "suit # #"), ("TailorWorkshop$Script", 73, "cut @ @"), ("TailorWorkshop$Script", 75, "sew @ @"), ("TailorWorkshop$Script", 77, "unpick @ @"), ("TailorWorkshop$Script", 79, "order @ @<@"), ("TailorWorkshop$Script", 81, "deliver @"), ("TailorWorkshop$Script", 83, "scrap @"), ("TailorWorkshop", 343, "the script does not have the required form"), ("TailorWorkshop", 349, "a command of the script failed"), ("TailorWorkshop", 354, "no script had a wrong form"), ("TailorWorkshop", 356, "no command of a script failed"), ("TailorWorkshop", 358, "nothing to undo"), ("TailorWorkshop", 360, "no snapshot")]
/-- their letters -/
def jbyts : List (List Int32) := [[110, 111, 32, 115, 117, 99, 104, 32, 115, 117, 105, 116], [110, 111, 32, 115, 117, 99, 104, 32, 99, 108, 111, 116, 104, 44, 32, 99, 117, 115, 116, 111, 109, 101, 114, 44, 32, 108, 101, 103, 32, 111, 114, 32, 115, 108, 101, 101, 118, 101], [97, 110, 32, 97, 114, 103, 117, 109, 101, 110, 116, 32, 105, 115, 32, 110, 111, 116, 32, 105, 110, 32, 105, 116, 115, 32, 114, 97, 110, 103, 101], [116, 104, 101, 32, 115, 116, 97, 116, 101, 32, 100, 111, 101, 115, 32, 110, 111, 116, 32, 97, 108, 108, 111, 119, 32, 105, 116], [116, 104, 101, 32, 99, 108, 111, 116, 104, 32, 111, 114, 32, 116, 104, 101, 32, 100, 101, 109, 97, 110, 100, 115, 32, 100, 111, 32, 110, 111, 116, 32, 97, 108, 108, 111, 119, 32, 105, 116], [110, 111, 32, 115, 117, 99, 104, 32, 99, 108, 111, 116, 104], [110, 111, 32, 115, 117, 99, 104, 32, 99, 117, 115, 116, 111, 109, 101, 114], [110, 111, 32, 115, 117, 99, 104, 32, 108, 101, 103], [110, 111, 32, 115, 117, 99, 104, 32, 114, 97, 110, 107], [110, 111, 32, 115, 117, 99, 104, 32, 112, 111, 115, 105, 116, 105, 111, 110], [110, 111, 32, 115, 117, 99, 104, 32, 115, 108, 101, 101, 118, 101], [116, 104, 101, 32, 115, 108, 101, 101, 118, 101, 32, 105, 115, 32, 112, 108, 97, 110, 110, 101, 100], [110, 111, 32, 99, 108, 111, 116, 104, 32, 104, 97, 115, 32, 98, 101, 101, 110, 32, 98, 111, 117, 103, 104, 116], [83, 116, 114, 105, 110, 103, 32, 105, 110, 100, 101, 120, 32, 111, 117, 116, 32, 111, 102, 32, 114, 97, 110, 103, 101, 58, 32], [32, 62, 32], [102, 114, 111, 109, 73, 110, 100, 101, 120, 40], [41, 32, 62, 32, 116, 111, 73, 110, 100, 101, 120, 40], [41], [65, 114, 114, 97, 121, 32, 105, 110, 100, 101, 120, 32, 111, 117, 116, 32, 111, 102, 32, 114, 97, 110, 103, 101, 58, 32], [110, 111, 32, 115, 117, 99, 104, 32, 105, 110, 100, 101, 120], [110, 111, 116, 32, 97, 32, 99, 104, 97, 114, 97, 99, 116, 101, 114, 32, 116, 104, 97, 116, 32, 99, 97, 110, 32, 98, 101, 32, 116, 121, 112, 101, 100], [116, 104, 101, 32, 115, 99, 114, 105, 112, 116, 32, 98, 117, 102, 102, 101, 114, 32, 105, 115, 32, 102, 117, 108, 108], [98, 117, 121, 32, 35, 32, 64], [99, 117, 115, 116, 111, 109, 101, 114, 32, 35, 32, 64], [102, 105, 116, 32, 35, 32, 64, 32, 64], [115, 117, 105, 116, 32, 35, 32, 35], [99, 117, 116, 32, 64, 32, 64], [115, 101, 119, 32, 64, 32, 64], [117, 110, 112, 105, 99, 107, 32, 64, 32, 64], [111, 114, 100, 101, 114, 32, 64, 32, 64, 60, 64], [100, 101, 108, 105, 118, 101, 114, 32, 64], [115, 99, 114, 97, 112, 32, 64], [116, 104, 101, 32, 115, 99, 114, 105, 112, 116, 32, 100, 111, 101, 115, 32, 110, 111, 116, 32, 104, 97, 118, 101, 32, 116, 104, 101, 32, 114, 101, 113, 117, 105, 114, 101, 100, 32, 102, 111, 114, 109], [97, 32, 99, 111, 109, 109, 97, 110, 100, 32, 111, 102, 32, 116, 104, 101, 32, 115, 99, 114, 105, 112, 116, 32, 102, 97, 105, 108, 101, 100], [110, 111, 32, 115, 99, 114, 105, 112, 116, 32, 104, 97, 100, 32, 97, 32, 119, 114, 111, 110, 103, 32, 102, 111, 114, 109], [110, 111, 32, 99, 111, 109, 109, 97, 110, 100, 32, 111, 102, 32, 97, 32, 115, 99, 114, 105, 112, 116, 32, 102, 97, 105, 108, 101, 100], [110, 111, 116, 104, 105, 110, 103, 32, 116, 111, 32, 117, 110, 100, 111], [110, 111, 32, 115, 110, 97, 112, 115, 104, 111, 116]]
/-- the classes of what is thrown -/
def jexc : List String := ["java/util/NoSuchElementException", "java/lang/IndexOutOfBoundsException", "java/lang/IllegalArgumentException", "java/lang/IllegalStateException", "java/lang/UnsupportedOperationException", "java/lang/ArithmeticException"]
/-- what else is known of the machine: no stack traces; the two statics that a throw reads; where the text constants are -/
def jE (l : Launch) (G : jG) (U : State) : Prop := l.stackTraces = false ∧ vx_Zq Bundle.tN "UNASSIGNED_STACK" Bundle.steD (fun q => jbase G ≤ q) U G.2.2.1 ∧ vx_Zq Bundle.tN "SUPPRESSED_SENTINEL" Bundle.listD (fun q => jbase G ≤ q) U G.2.2.1 ∧
  (∀ i q, jstrs[i]? = some q → vk_R q.1 q.2.1 q.2.2 (G.2.2.2.1 i) U) ∧ (∀ i q, jbyts[i]? = some q → vk_S 1 [q.length] [q] (fun _ => G.2.2.2.1 i) (fun _ => G.2.2.2.2 i) (fun q => jbase G ≤ q) U G.2.2.1) ∧
  va_Z "java/lang/String" "COMPACT_STRINGS" "Z" (.int 1) (fun q => jbase G ≤ q) U G.2.2.1 ∧
  (va_Z "java/lang/Integer" "DigitOnes" "[B" (.ref (G.2.2.2.1 100)) (fun q => jbase G ≤ q) U G.2.2.1 ∧ va_T .byte (G.2.2.2.1 100) 100 (fun j => .int (Int32.ofNat (48 + j % 10))) (fun q => jbase G ≤ q) U G.2.2.1) ∧
  (va_Z "java/lang/Integer" "DigitTens" "[B" (.ref (G.2.2.2.1 101)) (fun q => jbase G ≤ q) U G.2.2.1 ∧ va_T .byte (G.2.2.2.1 101) 100 (fun j => .int (Int32.ofNat (48 + j / 10))) (fun q => jbase G ≤ q) U G.2.2.1) ∧
  (∀ E1 ∈ jexc, ∀ E2 ∈ jexc, E1 ≠ E2 → va_Nc E1 E2 U) ∧
  va_Zq "jdk/internal/util/Preconditions" "SIOOBE_FORMATTER" "Ljava/util/function/BiFunction;" (fun q => jbase G ≤ q) U G.2.2.1
theorem jE.moved {l : Launch} {G : jG} {s U : State} (hW : s.WarmedH U.vm) (h : jE l G s) : jE l G U := ⟨h.1, h.2.1.moved hW.alike, h.2.2.1.moved hW.alike, fun i q hq => (h.2.2.2.1 i q hq).warm hW, fun i q hq => (h.2.2.2.2.1 i q hq).moved hW.alike, h.2.2.2.2.2.1.moved hW.alike, ⟨h.2.2.2.2.2.2.1.1.moved hW.alike, h.2.2.2.2.2.2.1.2.moved hW.alike⟩, ⟨h.2.2.2.2.2.2.2.1.1.moved hW.alike, h.2.2.2.2.2.2.2.1.2.moved hW.alike⟩, fun E1 h1 E2 h2 h3 => (h.2.2.2.2.2.2.2.2.1 E1 h1 E2 h2 h3).moved hW.alike, h.2.2.2.2.2.2.2.2.2.moved hW.alike⟩
theorem jE.same {l : Launch} {G : jG} {s U : State} (hv : U.vm = s.vm) (h : jE l G s) : jE l G U := ⟨h.1, h.2.1.moved (by rw [hv]; exact Vm.Alike.refl _), h.2.2.1.moved (by rw [hv]; exact Vm.Alike.refl _), fun i q hq => (h.2.2.2.1 i q hq).same hv, fun i q hq => (h.2.2.2.2.1 i q hq).moved (by rw [hv]; exact Vm.Alike.refl _), h.2.2.2.2.2.1.moved (by rw [hv]; exact Vm.Alike.refl _), ⟨h.2.2.2.2.2.2.1.1.moved (by rw [hv]; exact Vm.Alike.refl _), h.2.2.2.2.2.2.1.2.moved (by rw [hv]; exact Vm.Alike.refl _)⟩, ⟨h.2.2.2.2.2.2.2.1.1.moved (by rw [hv]; exact Vm.Alike.refl _), h.2.2.2.2.2.2.2.1.2.moved (by rw [hv]; exact Vm.Alike.refl _)⟩, fun E1 h1 E2 h2 h3 => (h.2.2.2.2.2.2.2.2.1 E1 h1 E2 h2 h3).moved (by rw [hv]; exact Vm.Alike.refl _), h.2.2.2.2.2.2.2.2.2.moved (by rw [hv]; exact Vm.Alike.refl _)⟩
