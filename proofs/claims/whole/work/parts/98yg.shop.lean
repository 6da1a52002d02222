/-! ===== the constructor of TailorWorkshop ===== -/
def rS : Nat → Nat × Nat × Nat := updS (updS (updS wS 2 (2, 5, 5)) 3 (2, 6, 6)) 0 (1, 9, 11)
/-- a whole room in its 38 cells -/
def wR (f : Nat → Nat) (V : Nat → Nat → Value) (o : Nat) : Prop := wH (fun j => f (o + j)) (fun j => V (o + j)) ∧ (∀ c, c < 5 → wC (fun j => f (o + j)) (fun j => V (o + j)) c) ∧ ∀ s, s < 6 → wU (fun j => f (o + j)) (fun j => V (o + j)) s
theorem wR_e {f f' : Nat → Nat} {V V' : Nat → Nat → Value} {o o' : Nat} (h : wR f V o) (hf : ∀ j, j < 38 → f' (o' + j) = f (o + j)) (hV : ∀ j, j < 38 → ∀ k, V' (o' + j) k = V (o + j) k) : wR f' V' o' := by
  obtain ⟨⟨a0, a1, a2, a3, a4, a5⟩, b, c⟩ := h
  refine ⟨⟨?_, ?_, ?_, ?_, fun k k1 k2 => ?_, fun k => ?_⟩, fun i hi => ?_, fun s hs => ?_⟩
  · exact (hV 0 (by omega) 0).trans (a0.trans (congrArg Value.ref (hf 1 (by omega)).symm))
  · exact (hV 0 (by omega) 1).trans (a1.trans (congrArg Value.ref (hf 2 (by omega)).symm))
  · exact (hV 0 (by omega) 2).trans a2
  · exact (hV 0 (by omega) 3).trans (a3.trans (congrArg Value.ref (hf 3 (by omega)).symm))
  · exact (hV 0 (by omega) k).trans (a4 k k1 k2)
  · exact (hV 1 (by omega) k).trans (a5 k)
  · obtain ⟨c0, c1, c2, c3⟩ := b i hi
    exact ⟨(hV 2 (by omega) i).trans (c0.trans (congrArg Value.ref (hf _ (by omega)).symm)), (hV _ (by omega) 0).trans c1, (hV _ (by omega) 1).trans (c2.trans (congrArg Value.ref (hf _ (by omega)).symm)), fun k => (hV _ (by omega) k).trans (c3 k)⟩
  · obtain ⟨c0, c1, c2, c3, c4, c5, c6, c7⟩ := c s hs
    exact ⟨(hV 3 (by omega) s).trans (c0.trans (congrArg Value.ref (hf _ (by omega)).symm)), fun k hk => (hV _ (by omega) k).trans (c1 k hk), (hV _ (by omega) 5).trans (c2.trans (congrArg Value.ref (hf _ (by omega)).symm)), (hV _ (by omega) 6).trans (c3.trans (congrArg Value.ref (hf _ (by omega)).symm)), (hV _ (by omega) 7).trans (c4.trans (congrArg Value.ref (hf _ (by omega)).symm)), fun k => (hV _ (by omega) k).trans (c5 k), fun k => (hV _ (by omega) k).trans (c6 k), fun k => (hV _ (by omega) k).trans (c7 k)⟩
/-- the finder in its 6 cells, the script in its 4 -/
def fnF (f : Nat → Nat) (V : Nat → Nat → Value) (o : Nat) : Prop := (V o 0 = .ref (f (o + 1)) ∧ V o 1 = .ref (f (o + 2)) ∧ V o 2 = .ref (f (o + 3)) ∧ V o 3 = .ref (f (o + 4)) ∧ V (o + 4) 0 = .ref (f (o + 5)) ∧ V (o + 4) 1 = .int 0) ∧ (∀ k, V (o + 1) k = .int 0) ∧ (∀ k, V (o + 2) k = .int 0) ∧ (∀ k, V (o + 3) k = .int 0) ∧ ∀ k, V (o + 5) k = .int 0
def fnS (f : Nat → Nat) (V : Nat → Nat → Value) (o : Nat) : Prop := (V o 0 = .ref (f (o + 1)) ∧ V o 1 = .int 0 ∧ V o 2 = .ref (f (o + 2)) ∧ V o 3 = .ref (f (o + 3)) ∧ V o 4 = .int 0) ∧ (∀ k, V (o + 1) k = .int 0) ∧ (∀ k, V (o + 2) k = .int 0) ∧ ∀ k, V (o + 3) k = .int 0
theorem fnF_e {f f' : Nat → Nat} {V V' : Nat → Nat → Value} {o : Nat} (h : fnF f V o) (hf : ∀ j, j < 6 → f' (o + j) = f (o + j)) (hV : ∀ j, j < 6 → ∀ k, V' (o + j) k = V (o + j) k) : fnF f' V' o := by
  obtain ⟨⟨a0, a1, a2, a3, a4, a5⟩, b1, b2, b3, b4⟩ := h
  exact ⟨⟨(hV 0 (by omega) 0).trans (a0.trans (congrArg Value.ref (hf 1 (by omega)).symm)), (hV 0 (by omega) 1).trans (a1.trans (congrArg Value.ref (hf 2 (by omega)).symm)), (hV 0 (by omega) 2).trans (a2.trans (congrArg Value.ref (hf 3 (by omega)).symm)), (hV 0 (by omega) 3).trans (a3.trans (congrArg Value.ref (hf 4 (by omega)).symm)), (hV 4 (by omega) 0).trans (a4.trans (congrArg Value.ref (hf 5 (by omega)).symm)), (hV 4 (by omega) 1).trans a5⟩, fun k => (hV 1 (by omega) k).trans (b1 k), fun k => (hV 2 (by omega) k).trans (b2 k), fun k => (hV 3 (by omega) k).trans (b3 k), fun k => (hV 5 (by omega) k).trans (b4 k)⟩
theorem fnS_e {f f' : Nat → Nat} {V V' : Nat → Nat → Value} {o : Nat} (h : fnS f V o) (hf : ∀ j, j < 4 → f' (o + j) = f (o + j)) (hV : ∀ j, j < 4 → ∀ k, V' (o + j) k = V (o + j) k) : fnS f' V' o := by
  obtain ⟨⟨a0, a1, a2, a3, a4⟩, b1, b2, b3⟩ := h
  exact ⟨⟨(hV 0 (by omega) 0).trans (a0.trans (congrArg Value.ref (hf 1 (by omega)).symm)), (hV 0 (by omega) 1).trans a1, (hV 0 (by omega) 2).trans (a2.trans (congrArg Value.ref (hf 2 (by omega)).symm)), (hV 0 (by omega) 3).trans (a3.trans (congrArg Value.ref (hf 3 (by omega)).symm)), (hV 0 (by omega) 4).trans a4⟩, fun k => (hV 1 (by omega) k).trans (b1 k), fun k => (hV 2 (by omega) k).trans (b2 k), fun k => (hV 3 (by omega) k).trans (b3 k)⟩
/-- the shapes of a workshop's cells, and what the first of them hold -/
def xS (j : Nat) : Nat × Nat × Nat := if j = 0 then (3, 10, 11) else if j < 115 then rS ((j - 1) % 38) else if j = 115 then (4, 7, 8) else if j < 122 then s_X1 (j - 116) else if j < 126 then s_X2 (j - 122) else if j = 126 then (6, 0, 0) else rS ((j - 127) % 38)
def xP : Nat → Nat → Nat × Nat × Nat := fun _ => xS
theorem xS_a {t : Nat} (h : t < 38) : xS (1 + t) = rS t ∧ xS (39 + t) = rS t ∧ xS (77 + t) = rS t := by
  unfold xS
  rw [if_neg (by omega), if_pos (by omega), if_neg (by omega), if_pos (by omega), if_neg (by omega), if_pos (by omega), show (1 + t - 1) % 38 = t from by omega, show (39 + t - 1) % 38 = t from by omega, show (77 + t - 1) % 38 = t from by omega]
  exact ⟨rfl, rfl, rfl⟩
theorem xS_b {i t : Nat} (h : t < 38) : xS (127 + 38 * i + t) = rS t := by
  unfold xS
  rw [if_neg (by omega), if_neg (by omega), if_neg (by omega), if_neg (by omega), if_neg (by omega), if_neg (by omega), show (127 + 38 * i + t - 127) % 38 = t from by omega]
theorem xS_f {t : Nat} (h : t < 6) : xS (116 + t) = s_X1 t := by
  unfold xS
  rw [if_neg (by omega), if_neg (by omega), if_neg (by omega), if_pos (by omega), show 116 + t - 116 = t from by omega]
theorem xS_s {t : Nat} (h : t < 4) : xS (122 + t) = s_X2 t := by
  unfold xS
  rw [if_neg (by omega), if_neg (by omega), if_neg (by omega), if_neg (by omega), if_pos (by omega), show 122 + t - 122 = t from by omega]
theorem rS_6 {t : Nat} (h : t < 38) : (rS t).1 ≠ 6 := by
  unfold rS updS wS
  split <;> try decide
  split <;> try decide
  split <;> try decide
  (repeat' split) <;> decide
theorem s1_6 {t : Nat} (h : t < 6) : (s_X1 t).1 ≠ 6 := by
  unfold s_X1
  (repeat' split) <;> decide
theorem s2_6 {t : Nat} (h : t < 4) : (s_X2 t).1 ≠ 6 := by
  unfold s_X2
  (repeat' split) <;> decide
theorem xS_6 {j : Nat} (h : j < 126) : (xS j).1 ≠ 6 := by
  unfold xS
  split
  · decide
  · split
    · exact rS_6 (Nat.mod_lt _ (by decide))
    · split
      · decide
      · split
        · exact s1_6 (by omega)
        · first
            | exact s2_6 (by omega)
            | (rw [if_pos h]; exact s2_6 (by omega))
theorem xS_8 {i : Nat} : xS (127 + 38 * i) = (1, 9, 11) := by
  have := xS_b (i := i) (t := 0) (by omega)
  exact this
section SHOPC
variable {G : jG} {σ σ1 σ2 : jH} {n m : Nat} {f g : Nat → Nat} {V W : Nat → Nat → Value} {S' : Nat → Nat × Nat × Nat}
theorem Blk.xcat (h : Blk G σ σ1 n f xS V) {a : Nat} {e : Nat × Nat × Nat} {d : Nat → Value} (ha : jFree G σ1 a) (hg : g 0 = a) (hm : 0 < m) (k : Blk G (jMade σ1 a e d) σ2 m g S' W) (hS : ∀ t, t < m → xS (n + t) = S' t) {n' : Nat} (hn : n + m = n') : ∃ f2 V2, Blk G σ σ2 n' f2 xS V2 ∧ (∀ j, j < n → f2 j = f j) ∧ (∀ j, j < n → ∀ k, V2 j k = V j k) ∧ (∀ j, f2 (n + j) = g j) ∧ ∀ j k, V2 (n + j) k = W j k := by
  subst hn
  refine ⟨catF n f g, catF n V W, (h.cat ha hg hm k).to (fun _ _ => rfl) (fun j hj => ?_) (fun _ _ _ => rfl), fun j hj => catF_l _ _ hj, fun j hj k => by rw [catF_l _ _ hj], fun j => catF_r _ _ _ j, fun j k => by rw [catF_r]⟩
  by_cases z : j < n
  · rw [catF_l _ _ z]
  · obtain ⟨t, rfl⟩ : ∃ t, j = n + t := ⟨j - n, by omega⟩
    rw [catF_r]
    exact hS t (by omega)
theorem Blk.xput (h : Blk G σ σ1 n f xS V) {i : Nat} (hi : i < n) (k : Nat) (v : Value) : ∃ V2, Blk G σ (pV σ1 (f i) k v) n f xS V2 ∧ V2 i k = v ∧ ∀ j q, ¬ (j = i ∧ q = k) → V2 j q = V j q :=
  ⟨updW V i k v, h.put hi k v, if_pos ⟨rfl, rfl⟩, fun j q hn => if_neg hn⟩
theorem Blk.no6 (h : Blk G σ σ1 126 f xS V) (hno : ∀ b, (σ.1 b).1 ≠ 6) (b : Nat) : (σ1.1 b).1 ≠ 6 := by
  by_cases z : ∃ i, i < 126 ∧ b = f i
  · obtain ⟨i, i1, i2⟩ := z
    rw [i2, (h.2.2.1 i i1).1]
    exact xS_6 i1
  · rw [(h.2.2.2.1 b (fun i hi w => z ⟨i, hi, w⟩)).1]
    exact hno b
end SHOPC
/-- what the workshop's cells hold before its past's rooms -/
def xQ (f : Nat → Nat) (V : Nat → Nat → Value) : Prop := (V 0 0 = .ref (f 1) ∧ V 0 1 = .ref (f 39) ∧ V 0 2 = .ref (f 77) ∧ V 0 3 = .int 0 ∧ V 0 4 = .ref (f 115) ∧ V 0 5 = .int 0 ∧ V 0 6 = .ref (f 116) ∧ V 0 7 = .ref (f 122) ∧ V 0 8 = .int (-1) ∧ V 0 9 = .int (-1) ∧ V 0 10 = .ref (f 126)) ∧ (wR f V 1 ∧ wR f V 39 ∧ wR f V 77) ∧ fnF f V 116 ∧ fnS f V 122 ∧ ∀ k, V 126 k = .int 0
theorem xQ_e {f f' : Nat → Nat} {V V' : Nat → Nat → Value} (h : xQ f V) (hf : ∀ j, j < 127 → f' j = f j) (hV : ∀ j, j < 127 → j ≠ 115 → ∀ k, V' j k = V j k) : xQ f' V' := by
  obtain ⟨⟨a0, a1, a2, a3, a4, a5, a6, a7, a8, a9, a10⟩, ⟨b1, b2, b3⟩, b4, b5, b6⟩ := h
  have v0 := hV 0 (by omega) (by omega)
  refine ⟨⟨(v0 0).trans (a0.trans (congrArg Value.ref (hf 1 (by omega)).symm)), (v0 1).trans (a1.trans (congrArg Value.ref (hf 39 (by omega)).symm)), (v0 2).trans (a2.trans (congrArg Value.ref (hf 77 (by omega)).symm)), (v0 3).trans a3, (v0 4).trans (a4.trans (congrArg Value.ref (hf 115 (by omega)).symm)), (v0 5).trans a5, (v0 6).trans (a6.trans (congrArg Value.ref (hf 116 (by omega)).symm)), (v0 7).trans (a7.trans (congrArg Value.ref (hf 122 (by omega)).symm)), (v0 8).trans a8, (v0 9).trans a9, (v0 10).trans (a10.trans (congrArg Value.ref (hf 126 (by omega)).symm))⟩, ⟨?_, ?_, ?_⟩, ?_, ?_, fun k => (hV 126 (by omega) (by omega) k).trans (b6 k)⟩
  · exact wR_e b1 (fun j hj => hf _ (by omega)) (fun j hj => hV _ (by omega) (by omega))
  · exact wR_e b2 (fun j hj => hf _ (by omega)) (fun j hj => hV _ (by omega) (by omega))
  · exact wR_e b3 (fun j hj => hf _ (by omega)) (fun j hj => hV _ (by omega) (by omega))
  · exact fnF_e b4 (fun j hj => hf _ (by omega)) (fun j hj => hV _ (by omega) (by omega))
  · exact fnS_e b5 (fun j hj => hf _ (by omega)) (fun j hj => hV _ (by omega) (by omega))
/-- one room of the past -/
def xR (f : Nat → Nat) (V : Nat → Nat → Value) (i : Nat) : Prop := V 115 i = .ref (f (127 + 38 * i)) ∧ wR f V (127 + 38 * i)
theorem nw_RX6_9 : jNw RX6 9 9 11 tyX5 := ⟨RX5, TX5, rfl, in_X5, tyX5_ok, (TB_in (by decide +kernel) (by decide +kernel)), (TB_in (by decide +kernel) (by decide +kernel)), (TB_in (by decide +kernel) (by decide +kernel))⟩
theorem nw_RX6_34 : jNw RX6 34 5 4 tyX1 := ⟨RX1, TX1, rfl, in_X1, tyX1_ok, (TB_in (by decide +kernel) (by decide +kernel)), (TB_in (by decide +kernel) (by decide +kernel)), (TB_in (by decide +kernel) (by decide +kernel))⟩
theorem nw_RX6_41 : jNw RX6 41 6 5 tyX2 := ⟨RX2, TX2, rfl, in_X2, tyX2_ok, (TB_in (by decide +kernel) (by decide +kernel)), (TB_in (by decide +kernel) (by decide +kernel)), (TB_in (by decide +kernel) (by decide +kernel))⟩
theorem mi_RX6_11 : Cond.methodLink RX6 11 yX5_init ∈ TB ∨ ∃ host, Cond.methodLinkNest RX6 11 yX5_init host ∈ TB := Or.inl (TB_in (by decide +kernel) (by decide +kernel))
theorem yi_X5 : jYI yX5_init cX5_init 2 0 := ⟨(TB_in (by decide +kernel) (by decide +kernel)), rfl, (TB_in (by decide +kernel) (by decide +kernel)), (TB_in (by decide +kernel) (by decide +kernel)), ⟨by decide +kernel, by decide +kernel⟩, by decide +kernel⟩
theorem mi_RX6_36 : Cond.methodLink RX6 36 yX1_init ∈ TB ∨ ∃ host, Cond.methodLinkNest RX6 36 yX1_init host ∈ TB := Or.inr ⟨"TailorWorkshop", (TB_in (by decide +kernel) (by decide +kernel))⟩
theorem yi_X1 : jYI yX1_init cX1_init 1 0 := ⟨(TB_in (by decide +kernel) (by decide +kernel)), rfl, (TB_in (by decide +kernel) (by decide +kernel)), (TB_in (by decide +kernel) (by decide +kernel)), ⟨by decide +kernel, by decide +kernel⟩, by decide +kernel⟩
theorem mi_RX6_43 : Cond.methodLink RX6 43 yX2_init ∈ TB ∨ ∃ host, Cond.methodLinkNest RX6 43 yX2_init host ∈ TB := Or.inr ⟨"TailorWorkshop", (TB_in (by decide +kernel) (by decide +kernel))⟩
theorem yi_X2 : jYI yX2_init cX2_init 1 0 := ⟨(TB_in (by decide +kernel) (by decide +kernel)), rfl, (TB_in (by decide +kernel) (by decide +kernel)), (TB_in (by decide +kernel) (by decide +kernel)), ⟨by decide +kernel, by decide +kernel⟩, by decide +kernel⟩
theorem nw_RX6_54 : jNw RX6 54 1 4 tyJ4 := ⟨RJ4, TJ4, rfl, sb_in, tyJ4_ok, (TB_in (by decide +kernel) (by decide +kernel)), (TB_in (by decide +kernel) (by decide +kernel)), (TB_in (by decide +kernel) (by decide +kernel))⟩
theorem mi_RX6_56 : Cond.methodLink RX6 56 yJ4_init_da8c8 ∈ TB ∨ ∃ host, Cond.methodLinkNest RX6 56 yJ4_init_da8c8 host ∈ TB := Or.inl (TB_in (by decide +kernel) (by decide +kernel))
theorem yi_J4 : jYI yJ4_init_da8c8 cJ4_init_da8c8 1 0 := ⟨(TB_in (by decide +kernel) (by decide +kernel)), rfl, (TB_in (by decide +kernel) (by decide +kernel)), (TB_in (by decide +kernel) (by decide +kernel)), ⟨by decide +kernel, by decide +kernel⟩, by decide +kernel⟩
theorem oi_l_RX6 : Cond.methodLink RX6 3 Lib.objectInit ∈ TB := (TB_in (by decide +kernel) (by decide +kernel))
theorem cl_RX6_9 : Cond.classLink RX6 9 RX5 ∈ TB := (TB_in (by decide +kernel) (by decide +kernel))
theorem ao_X5 : Cond.arrayOver (.object RX5) ∈ TB := (TB_in (by decide +kernel) (by decide +kernel))
theorem fg_X6_26 : jFld RX6 26 10 11 4 := ⟨RX6, TX6, rfl, in_X6, by decide, Or.inl (TB_in (by decide +kernel) (by decide +kernel))⟩
theorem fp_X6_12 : jFlw RX6 12 10 11 0 (.object RX5) := ⟨RX6, TX6, tyX6, rfl, in_X6, tyX6_ok, nmX6, by decide, rfl, rfl, Or.inl (TB_in (by decide +kernel) (by decide +kernel))⟩
theorem fp_X6_16 : jFlw RX6 16 10 11 1 (.object RX5) := ⟨RX6, TX6, tyX6, rfl, in_X6, tyX6_ok, nmX6, by decide, rfl, rfl, Or.inl (TB_in (by decide +kernel) (by decide +kernel))⟩
theorem fp_X6_19 : jFlf RX6 19 10 11 2 (.object RX5) := ⟨TX6, tyX6, rfl, in_X6, tyX6_ok, nmX6, by decide, rfl, rfl, rfl, (TB_in (by decide +kernel) (by decide +kernel))⟩
theorem fp_X6_22 : jFlw RX6 22 10 11 3 .boolean := ⟨RX6, TX6, tyX6, rfl, in_X6, tyX6_ok, nmX6, by decide, rfl, rfl, Or.inl (TB_in (by decide +kernel) (by decide +kernel))⟩
theorem fp_X6_26 : jFlf RX6 26 10 11 4 (.array (.object RX5)) := ⟨TX6, tyX6, rfl, in_X6, tyX6_ok, nmX6, by decide, rfl, rfl, rfl, (TB_in (by decide +kernel) (by decide +kernel))⟩
theorem fp_X6_30 : jFlw RX6 30 10 11 5 .int := ⟨RX6, TX6, tyX6, rfl, in_X6, tyX6_ok, nmX6, by decide, rfl, rfl, Or.inl (TB_in (by decide +kernel) (by decide +kernel))⟩
theorem fp_X6_37 : jFlf RX6 37 10 11 6 (.object RX1) := ⟨TX6, tyX6, rfl, in_X6, tyX6_ok, nmX6, by decide, rfl, rfl, rfl, (TB_in (by decide +kernel) (by decide +kernel))⟩
theorem fp_X6_44 : jFlf RX6 44 10 11 7 (.object RX2) := ⟨TX6, tyX6, rfl, in_X6, tyX6_ok, nmX6, by decide, rfl, rfl, rfl, (TB_in (by decide +kernel) (by decide +kernel))⟩
theorem fp_X6_48 : jFlw RX6 48 10 11 8 .int := ⟨RX6, TX6, tyX6, rfl, in_X6, tyX6_ok, nmX6, by decide, rfl, rfl, Or.inl (TB_in (by decide +kernel) (by decide +kernel))⟩
theorem fp_X6_51 : jFlw RX6 51 10 11 9 .int := ⟨RX6, TX6, tyX6, rfl, in_X6, tyX6_ok, nmX6, by decide, rfl, rfl, Or.inl (TB_in (by decide +kernel) (by decide +kernel))⟩
theorem fp_X6_57 : jFlf RX6 57 10 11 10 (.object "java/lang/StringBuilder") := ⟨TX6, tyX6, rfl, in_X6, tyX6_ok, nmX6, by decide, rfl, rfl, rfl, (TB_in (by decide +kernel) (by decide +kernel))⟩
section SHOPL
variable {l : Launch} {G : jG} {σ : jH} {a : Nat} {F : jFm}
theorem shop_end (C : jB F RX6 cX6_init 2 none 3 431 5375 64) (hG : jGof F = G) (ho : ∀ r σ', jEndQ F r σ' = (r = none ∧ ∃ f V, f 0 = a ∧ Blk G σ σ' 431 f (updS (updS xS 115 (2, 7, 8)) 0 (1, 10, 11)) V ∧ xQ f V ∧ ∀ i, i < 8 → xR f V i)) {σ1 : jH} {f : Nat → Nat} {V : Nat → Nat → Value} {lv : List (Nat × Value)} (hf : f 0 = a) (hB : Blk G σ σ1 431 f xS V) (h1 : xQ f V) (h2 : ∀ i, i < 8 → xR f V i) : jV F 2 431 5375 σ1 126 lv [] := by
  have hP := hB.pro (i := 115) (by decide) (e := (2, 7, 8)) (Or.inr (Or.inl rfl))
  refine v_pro4 (a := f 115) (hB.2.2.1 115 (by decide)).1 (fun j hj => ?_) ?_
  · have e := (hB.2.2.1 115 (by decide)).2 j
    rw [(h2 j hj).1] at e
    refine ⟨_, e, ?_⟩
    refine (hP.2.2.1 (127 + 38 * j) (by omega)).1.trans ?_
    unfold updS
    rw [if_neg (by omega)]
    exact xS_8
  have hP0 := hP.pro (i := 0) (by decide) (e := (1, 10, 11)) (Or.inl rfl)
  obtain ⟨w0, w1, w2, w3, w4, w5, w6, w7, w8, w9, w10⟩ := id h1.1
  have val : ∀ j, (jPro σ1 (f 115) (2, 7, 8)).2 (f 0) j = V 0 j := (hP.2.2.1 0 (by decide)).2
  refine v_pro (a := f 0) (i := 10) (N := 11) (hP.2.2.1 0 (by decide)).1 (fun j hj => ?_) ?_
  · rw [val]
    have hc : j = 0 ∨ j = 1 ∨ j = 2 ∨ j = 3 ∨ j = 4 ∨ j = 5 ∨ j = 6 ∨ j = 7 ∨ j = 8 ∨ j = 9 ∨ j = 10 := by omega
    rcases hc with z | z | z | z | z | z | z | z | z | z | z <;> subst z
    · rw [w0]; exact ⟨_, rfl, (hP0.2.2.1 1 (by decide)).1⟩
    · rw [w1]; exact ⟨_, rfl, (hP0.2.2.1 39 (by decide)).1⟩
    · rw [w2]; exact ⟨_, rfl, (hP0.2.2.1 77 (by decide)).1⟩
    · rw [w3]; exact ⟨0, rfl⟩
    · rw [w4]; exact ⟨_, rfl, (hP0.2.2.1 115 (by decide)).1⟩
    · rw [w5]; exact ⟨0, rfl⟩
    · rw [w6]; exact ⟨_, rfl, (hP0.2.2.1 116 (by decide)).1⟩
    · rw [w7]; exact ⟨_, rfl, (hP0.2.2.1 122 (by decide)).1⟩
    · rw [w8]; exact ⟨_, rfl⟩
    · rw [w9]; exact ⟨_, rfl⟩
    · rw [w10]; exact ⟨_, rfl, (hP0.2.2.1 126 (by decide)).1⟩
  refine v_vret C (Nat.le_of_ble_eq_true rfl) (Nat.le_of_ble_eq_true rfl) dX6_init_126 ?_
  rw [ho]
  exact ⟨rfl, f, V, hf, hP0, h1, h2⟩
theorem shop_past (C : jB F RX6 cX6_init 2 none 3 431 5375 64) (hl : jLof F = l) (hG : jGof F = G) (ho : ∀ r σ', jEndQ F r σ' = (r = none ∧ ∃ f V, f 0 = a ∧ Blk G σ σ' 431 f (updS (updS xS 115 (2, 7, 8)) 0 (1, 10, 11)) V ∧ xQ f V ∧ ∀ i, i < 8 → xR f V i)) : ∀ (q i : Nat) (σ1 : jH) (f : Nat → Nat) (V : Nat → Nat → Value), i + q = 8 → f 0 = a → Blk G σ σ1 (127 + 38 * i) f xS V → xQ f V → (∀ c, c < i → xR f V c) → jV F 2 (127 + 38 * i) (1759 + 452 * i) σ1 101 [(0, .ref a), (1, .int (oN i))] [] := by
  intro q
  induction q with
  | zero =>
    intro i σ1 f V g1 hf hB h1 h2
    have hi8 : i = 8 := by omega
    subst hi8
    refine v_iload_n C.1 1 102 rfl dX6_init_101 rfl ?_
    refine v_bipush C.1 8 rfl 104 rfl dX6_init_102 ?_
    refine v_icmp_ge C.1 126 107 rfl dX6_init_104 rfl ⟨fun _ => ?_, fun c => absurd (by decide) c⟩
    exact shop_end C hG ho hf hB h1 h2
  | succ q ih =>
    intro i σ1 f V g1 hf hB h1 h2
    have hi : i < 8 := by omega
    have hn : ¬ (8 : Int32) ≤ oN i := fun h => by have := (oN_le (a := 8) (by omega) (by omega)).mp h; omega
    refine v_iload_n C.1 1 102 rfl dX6_init_101 rfl ?_
    refine v_bipush C.1 8 rfl 104 rfl dX6_init_102 ?_
    refine v_icmp_ge C.1 126 107 rfl dX6_init_104 rfl ⟨fun c => absurd c hn, fun _ => ?_⟩
    have s0 : σ1.1 a = (3, 10, 11) := by rw [← hf]; exact (hB.2.2.1 0 (by omega)).1
    have v3 : σ1.2 a 4 = .ref (f 115) := by rw [← hf, (hB.2.2.1 0 (by omega)).2]; exact h1.1.2.2.2.2.1
    refine v_aload_n C.1 0 108 rfl dX6_init_107 rfl ?_
    refine v_getV C.1 4 fg_X6_26 s0 v3 111 rfl dX6_init_108 ?_
    refine v_iload_n C.1 1 112 rfl dX6_init_111 rfl ?_
    refine v_newc C.1 nw_RX6_9 ⟨by omega, by omega⟩ (127 + 38 * i + 1) (1759 + 452 * i + 11) rfl rfl 115 rfl dX6_init_112 fun b hb => ?_
    rw [hG] at hb
    refine v_dup C.1 rfl 116 rfl dX6_init_115 ?_
    refine v_callI C.1 (st := [.ref b, .int (oN i), .ref (f 115)]) (c_X5_init (jMade_a _ _ _ _).1) yi_X5 mi_RX6_11 rfl ⟨(Nat.le_of_ble_eq_true rfl), (Nat.le_of_ble_eq_true rfl)⟩ ⟨by omega, by omega⟩ (Nat.le_of_ble_eq_true rfl) rfl (127 + 38 * (i + 1)) (1759 + 452 * (i + 1)) (by omega) (by omega) 119 rfl dX6_init_116 (fun r σ2 hr => ?_)
    obtain ⟨rfl, g, W, g0, hI, w0, w1, w2⟩ := hr
    rw [hG] at hI
    obtain ⟨f2, V2, hB2, fl, vl, fr, vr⟩ := hB.xcat hb g0 (by decide) hI (fun t ht => xS_b ht) (n' := 127 + 38 * (i + 1)) (by omega)
    have e15 : f2 115 = f 115 := fl 115 (by omega)
    have eb : f2 (127 + 38 * i) = b := (fr 0).trans g0
    have sA : σ2.1 (f 115) = (4, 7, 8) := by rw [← e15]; exact (hB2.2.2.1 115 (by omega)).1
    have sb : σ2.1 b = (1, 9, 11) := by rw [← eb, (hB2.2.2.1 (127 + 38 * i) (by omega)).1]; exact xS_8
    show jV F 2 (127 + 38 * (i + 1)) (1759 + 452 * (i + 1)) σ2 119 _ [.ref b, .int (oN i), .ref (f 115)]
    refine v_aastM C.1 (r := (RX5, TX5, 11)) (ci := 9) (t := 7) (n := 8) rfl rfl sb sA hi (by omega) 120 rfl dX6_init_119 ?_
    obtain ⟨V3, hB3, x1, x2⟩ := hB2.xput (i := 115) (by omega) i (.ref b)
    rw [e15] at hB3
    generalize pV σ2 (f 115) i (.ref b) = σ3 at hB3 ⊢
    refine v_iinc C.1 (lv' := [(0, .ref a), (1, .int (oN (i + 1)))]) 1 [1, 0] 123 rfl dX6_init_120 rfl (Nat.le_of_ble_eq_true rfl) (oN_add i 1) rfl ?_
    refine v_goto C.1 101 dX6_init_123 rfl ?_
    have hR : wR g W 0 := ⟨⟨by simpa only [Nat.zero_add] using w0.1, by simpa only [Nat.zero_add] using w0.2.1, by simpa only [Nat.zero_add] using w0.2.2.1, by simpa only [Nat.zero_add] using w0.2.2.2.1, by simpa only [Nat.zero_add] using w0.2.2.2.2.1, by simpa only [Nat.zero_add] using w0.2.2.2.2.2⟩, by simpa only [wC, Nat.zero_add] using w1, by simpa only [wU, Nat.zero_add] using w2⟩
    refine ih (i + 1) σ3 f2 V3 (by omega) ((fl 0 (by omega)).trans hf) hB3 (xQ_e h1 (fun j hj => fl j (by omega)) (fun j hj hne k => (x2 j k (by omega)).trans (vl j (by omega) k))) (fun c hc => ?_)
    by_cases z : c < i
    · obtain ⟨c0, c1⟩ := h2 c z
      refine ⟨?_, wR_e c1 (fun j hj => fl _ (by omega)) (fun j hj k => (x2 _ k (by omega)).trans (vl _ (by omega) k))⟩
      rw [x2 _ _ (by omega), vl _ (by omega), fl _ (by omega)]; exact c0
    · have es : c = i := by omega
      subst es
      refine ⟨by rw [x1, eb], wR_e hR (fun j hj => (fr j).trans (by rw [Nat.zero_add])) (fun j hj k => (x2 _ k (by omega)).trans ((vr j k).trans (by rw [Nat.zero_add])))⟩
end SHOPL
theorem wR_0 {g : Nat → Nat} {W : Nat → Nat → Value} (w0 : wH g W) (w1 : ∀ c, c < 5 → wC g W c) (w2 : ∀ s, s < 6 → wU g W s) : wR g W 0 := ⟨⟨by simpa only [Nat.zero_add] using w0.1, by simpa only [Nat.zero_add] using w0.2.1, by simpa only [Nat.zero_add] using w0.2.2.1, by simpa only [Nat.zero_add] using w0.2.2.2.1, by simpa only [Nat.zero_add] using w0.2.2.2.2.1, by simpa only [Nat.zero_add] using w0.2.2.2.2.2⟩, by simpa only [wC, Nat.zero_add] using w1, by simpa only [wU, Nat.zero_add] using w2⟩
theorem c_X6_init {l : Launch} {G : jG} {σ : jH} {a : Nat} (h : σ.1 a = (3, 10, 11)) (hno : ∀ b, (σ.1 b).1 ≠ 6) : jM l G yX6_init cX6_init 2 none 3 431 5375 64 [.ref a] σ (fun r σ' => r = none ∧ ∃ f V, f 0 = a ∧ Blk G σ σ' 431 f (updS (updS xS 115 (2, 7, 8)) 0 (1, 10, 11)) V ∧ xQ f V ∧ ∀ i, i < 8 → xR f V i) jNo := by
  refine r_body3 (by decide +kernel) rfl (Nat.le_of_ble_eq_true rfl) fun F C hl hG hN ho => ?_
  show jV F _ 0 0 σ 0 [(0, .ref a)] []
  have hB : Blk G σ σ 1 (fun _ => a) xS _ := (Blk.one (G := G) h (Or.inr (Or.inr (Or.inl rfl)))).to (fun _ _ => rfl) (fun i hi => by obtain rfl : i = 0 := (by omega); rfl) (fun _ _ _ => rfl)
  have e0 : (fun _ : Nat => a) 0 = a := rfl
  generalize (fun _ : Nat => a) = f2 at hB e0
  generalize (fun _ : Nat => σ.2 a) = V2 at hB
  refine v_aload_n C.1 0 1 rfl dX6_init_0 rfl ?_
  refine v_obj C.1 oi_l_RX6 oi_i oi_c ⟨(Nat.le_of_ble_eq_true rfl), (Nat.le_of_ble_eq_true rfl)⟩ 4 rfl dX6_init_1 ?_
  refine v_aload_n C.1 0 5 rfl dX6_init_4 rfl ?_
  refine v_newc C.1 nw_RX6_9 ⟨(Nat.le_of_ble_eq_true rfl), (Nat.le_of_ble_eq_true rfl)⟩ 1 11 rfl rfl 8 rfl dX6_init_5 fun b1 hn => ?_
  rw [hG] at hn
  refine v_dup C.1 rfl 9 rfl dX6_init_8 ?_
  refine v_callI C.1 (st := [.ref b1, .ref a]) (c_X5_init (jMade_a _ _ _ _).1) yi_X5 mi_RX6_11 rfl ⟨(Nat.le_of_ble_eq_true rfl), (Nat.le_of_ble_eq_true rfl)⟩ ⟨(Nat.le_of_ble_eq_true rfl), (Nat.le_of_ble_eq_true rfl)⟩ (Nat.le_of_ble_eq_true rfl) rfl 38 452 rfl rfl 12 rfl dX6_init_9 (fun r σ0 hr => ?_)
  obtain ⟨rfl, g, W, g0, hI, w0, w1, w2⟩ := hr
  rw [hG] at hI
  obtain ⟨f2, V2, hB, fl, vl, fr, vr⟩ := hB.xcat hn g0 (by decide) hI (fun t ht => (xS_a ht).1) (n' := 39) (by omega)
  simp only [Option.toList, List.nil_append]
  have e0 := (fl 0 (by omega)).trans e0
  have p1 : wR f2 V2 1 := wR_e (wR_0 w0 w1 w2) (fun j hj => (fr j).trans (by rw [Nat.zero_add])) (fun j hj k => (vr j k).trans (by rw [Nat.zero_add]))
  have eb : f2 1 = b1 := (fr 0).trans g0
  clear w0 w1 w2 hI g0
  clear fl vl fr vr hn
  have ha : _ = (3, 10, 11) := (hB.2.2.1 0 (by omega)).1
  rw [e0] at ha
  refine v_put C.1 0 fp_X6_12 rfl rfl ha 15 rfl dX6_init_12 ?_
  obtain ⟨V2, hB, x1, x2⟩ := hB.xput (i := 0) (by omega) 0 (.ref b1)
  rw [e0] at hB
  generalize pV _ a 0 (.ref b1) = σ1 at hB ⊢
  have p1 : wR f2 V2 1 := wR_e p1 (fun j hj => rfl) (fun j hj k => x2 _ k (by omega))
  have q0 : V2 0 0 = .ref (f2 1) := x1.trans (congrArg Value.ref eb.symm)
  clear x1 x2 ha
  refine v_aload_n C.1 0 16 rfl dX6_init_15 rfl ?_
  refine v_newc C.1 nw_RX6_9 ⟨(Nat.le_of_ble_eq_true rfl), (Nat.le_of_ble_eq_true rfl)⟩ 39 463 rfl rfl 19 rfl dX6_init_16 fun b39 hn => ?_
  rw [hG] at hn
  refine v_dup C.1 rfl 20 rfl dX6_init_19 ?_
  refine v_callI C.1 (st := [.ref b39, .ref a]) (c_X5_init (jMade_a _ _ _ _).1) yi_X5 mi_RX6_11 rfl ⟨(Nat.le_of_ble_eq_true rfl), (Nat.le_of_ble_eq_true rfl)⟩ ⟨(Nat.le_of_ble_eq_true rfl), (Nat.le_of_ble_eq_true rfl)⟩ (Nat.le_of_ble_eq_true rfl) rfl 76 904 rfl rfl 23 rfl dX6_init_20 (fun r σ2 hr => ?_)
  obtain ⟨rfl, g, W, g0, hI, w0, w1, w2⟩ := hr
  rw [hG] at hI
  obtain ⟨f2, V2, hB, fl, vl, fr, vr⟩ := hB.xcat hn g0 (by decide) hI (fun t ht => (xS_a ht).2.1) (n' := 77) (by omega)
  simp only [Option.toList, List.nil_append]
  have e0 := (fl 0 (by omega)).trans e0
  have q0 := (vl 0 (by omega) 0).trans (q0.trans (congrArg Value.ref (fl 1 (by omega)).symm))
  have p1 : wR f2 V2 1 := wR_e p1 (fun j hj => fl _ (by omega)) (fun j hj k => vl _ (by omega) k)
  have p39 : wR f2 V2 39 := wR_e (wR_0 w0 w1 w2) (fun j hj => (fr j).trans (by rw [Nat.zero_add])) (fun j hj k => (vr j k).trans (by rw [Nat.zero_add]))
  have eb : f2 39 = b39 := (fr 0).trans g0
  clear w0 w1 w2 hI g0
  clear fl vl fr vr hn
  have ha : _ = (3, 10, 11) := (hB.2.2.1 0 (by omega)).1
  rw [e0] at ha
  refine v_put C.1 1 fp_X6_16 rfl rfl ha 26 rfl dX6_init_23 ?_
  obtain ⟨V2, hB, x1, x2⟩ := hB.xput (i := 0) (by omega) 1 (.ref b39)
  rw [e0] at hB
  generalize pV _ a 1 (.ref b39) = σ3 at hB ⊢
  have q0 := (x2 0 0 (by omega)).trans q0
  have p1 : wR f2 V2 1 := wR_e p1 (fun j hj => rfl) (fun j hj k => x2 _ k (by omega))
  have p39 : wR f2 V2 39 := wR_e p39 (fun j hj => rfl) (fun j hj k => x2 _ k (by omega))
  have q1 : V2 0 1 = .ref (f2 39) := x1.trans (congrArg Value.ref eb.symm)
  clear x1 x2 ha
  refine v_aload_n C.1 0 27 rfl dX6_init_26 rfl ?_
  refine v_newc C.1 nw_RX6_9 ⟨(Nat.le_of_ble_eq_true rfl), (Nat.le_of_ble_eq_true rfl)⟩ 77 915 rfl rfl 30 rfl dX6_init_27 fun b77 hn => ?_
  rw [hG] at hn
  refine v_dup C.1 rfl 31 rfl dX6_init_30 ?_
  refine v_callI C.1 (st := [.ref b77, .ref a]) (c_X5_init (jMade_a _ _ _ _).1) yi_X5 mi_RX6_11 rfl ⟨(Nat.le_of_ble_eq_true rfl), (Nat.le_of_ble_eq_true rfl)⟩ ⟨(Nat.le_of_ble_eq_true rfl), (Nat.le_of_ble_eq_true rfl)⟩ (Nat.le_of_ble_eq_true rfl) rfl 114 1356 rfl rfl 34 rfl dX6_init_31 (fun r σ4 hr => ?_)
  obtain ⟨rfl, g, W, g0, hI, w0, w1, w2⟩ := hr
  rw [hG] at hI
  obtain ⟨f2, V2, hB, fl, vl, fr, vr⟩ := hB.xcat hn g0 (by decide) hI (fun t ht => (xS_a ht).2.2) (n' := 115) (by omega)
  simp only [Option.toList, List.nil_append]
  have e0 := (fl 0 (by omega)).trans e0
  have q0 := (vl 0 (by omega) 0).trans (q0.trans (congrArg Value.ref (fl 1 (by omega)).symm))
  have q1 := (vl 0 (by omega) 1).trans (q1.trans (congrArg Value.ref (fl 39 (by omega)).symm))
  have p1 : wR f2 V2 1 := wR_e p1 (fun j hj => fl _ (by omega)) (fun j hj k => vl _ (by omega) k)
  have p39 : wR f2 V2 39 := wR_e p39 (fun j hj => fl _ (by omega)) (fun j hj k => vl _ (by omega) k)
  have p77 : wR f2 V2 77 := wR_e (wR_0 w0 w1 w2) (fun j hj => (fr j).trans (by rw [Nat.zero_add])) (fun j hj k => (vr j k).trans (by rw [Nat.zero_add]))
  have eb : f2 77 = b77 := (fr 0).trans g0
  clear w0 w1 w2 hI g0
  clear fl vl fr vr hn
  have ha : _ = (3, 10, 11) := (hB.2.2.1 0 (by omega)).1
  rw [e0] at ha
  refine v_putF C.1 hN 2 fp_X6_19 rfl rfl ha 37 rfl dX6_init_34 ?_
  obtain ⟨V2, hB, x1, x2⟩ := hB.xput (i := 0) (by omega) 2 (.ref b77)
  rw [e0] at hB
  generalize pV _ a 2 (.ref b77) = σ5 at hB ⊢
  have q0 := (x2 0 0 (by omega)).trans q0
  have q1 := (x2 0 1 (by omega)).trans q1
  have p1 : wR f2 V2 1 := wR_e p1 (fun j hj => rfl) (fun j hj k => x2 _ k (by omega))
  have p39 : wR f2 V2 39 := wR_e p39 (fun j hj => rfl) (fun j hj k => x2 _ k (by omega))
  have p77 : wR f2 V2 77 := wR_e p77 (fun j hj => rfl) (fun j hj k => x2 _ k (by omega))
  have q2 : V2 0 2 = .ref (f2 77) := x1.trans (congrArg Value.ref eb.symm)
  clear x1 x2 ha
  refine v_aload_n C.1 0 38 rfl dX6_init_37 rfl ?_
  refine v_iconst C.1 0 rfl 39 rfl dX6_init_38 ?_
  have ha : _ = (3, 10, 11) := (hB.2.2.1 0 (by omega)).1
  rw [e0] at ha
  refine v_put C.1 3 fp_X6_22 rfl rfl ha 42 rfl dX6_init_39 ?_
  obtain ⟨V2, hB, x1, x2⟩ := hB.xput (i := 0) (by omega) 3 (.int 0)
  rw [e0] at hB
  generalize pV _ a 3 (.int 0) = σ6 at hB ⊢
  have q0 := (x2 0 0 (by omega)).trans q0
  have q1 := (x2 0 1 (by omega)).trans q1
  have q2 := (x2 0 2 (by omega)).trans q2
  have p1 : wR f2 V2 1 := wR_e p1 (fun j hj => rfl) (fun j hj k => x2 _ k (by omega))
  have p39 : wR f2 V2 39 := wR_e p39 (fun j hj => rfl) (fun j hj k => x2 _ k (by omega))
  have p77 : wR f2 V2 77 := wR_e p77 (fun j hj => rfl) (fun j hj k => x2 _ k (by omega))
  have q3 := x1
  clear x1 x2 ha
  refine v_aload_n C.1 0 43 rfl dX6_init_42 rfl ?_
  refine v_bipush C.1 8 rfl 45 rfl dX6_init_43 ?_
  refine v_anew C.1 (t := 7) (N := 8) ⟨by decide, by decide⟩ rfl cl_RX6_9 ao_X5 (by decide) rfl (by decide) ⟨(Nat.le_of_ble_eq_true rfl), (Nat.le_of_ble_eq_true rfl)⟩ 115 1364 rfl rfl 48 rfl dX6_init_45 fun b115 hn => ?_
  rw [hG] at hn
  obtain ⟨f2, V2, hB, fl, vl, fr, vr⟩ := hB.xcat (m := 1) hn (g := fun _ => b115) rfl (by decide) (Blk.one (G := G) (jMade_a _ _ (4, 7, 8) _).1 (Or.inr (Or.inr (Or.inr (Or.inl rfl))))) (fun t ht => by obtain rfl : t = 0 := (by omega); rfl) (n' := 116) (by omega)
  generalize jMade _ b115 (4, 7, 8) (fun _ => .null) = σ7 at hB ⊢
  have e0 := (fl 0 (by omega)).trans e0
  have q0 := (vl 0 (by omega) 0).trans (q0.trans (congrArg Value.ref (fl 1 (by omega)).symm))
  have q1 := (vl 0 (by omega) 1).trans (q1.trans (congrArg Value.ref (fl 39 (by omega)).symm))
  have q2 := (vl 0 (by omega) 2).trans (q2.trans (congrArg Value.ref (fl 77 (by omega)).symm))
  have q3 := (vl 0 (by omega) 3).trans q3
  have p1 : wR f2 V2 1 := wR_e p1 (fun j hj => fl _ (by omega)) (fun j hj k => vl _ (by omega) k)
  have p39 : wR f2 V2 39 := wR_e p39 (fun j hj => fl _ (by omega)) (fun j hj k => vl _ (by omega) k)
  have p77 : wR f2 V2 77 := wR_e p77 (fun j hj => fl _ (by omega)) (fun j hj k => vl _ (by omega) k)
  have eb : f2 115 = b115 := fr 0
  clear fl vl fr vr hn
  have ha : _ = (3, 10, 11) := (hB.2.2.1 0 (by omega)).1
  rw [e0] at ha
  refine v_putF C.1 hN 4 fp_X6_26 rfl rfl ha 51 rfl dX6_init_48 ?_
  obtain ⟨V2, hB, x1, x2⟩ := hB.xput (i := 0) (by omega) 4 (.ref b115)
  rw [e0] at hB
  generalize pV _ a 4 (.ref b115) = σ8 at hB ⊢
  have q0 := (x2 0 0 (by omega)).trans q0
  have q1 := (x2 0 1 (by omega)).trans q1
  have q2 := (x2 0 2 (by omega)).trans q2
  have q3 := (x2 0 3 (by omega)).trans q3
  have p1 : wR f2 V2 1 := wR_e p1 (fun j hj => rfl) (fun j hj k => x2 _ k (by omega))
  have p39 : wR f2 V2 39 := wR_e p39 (fun j hj => rfl) (fun j hj k => x2 _ k (by omega))
  have p77 : wR f2 V2 77 := wR_e p77 (fun j hj => rfl) (fun j hj k => x2 _ k (by omega))
  have q4 : V2 0 4 = .ref (f2 115) := x1.trans (congrArg Value.ref eb.symm)
  clear x1 x2 ha
  refine v_aload_n C.1 0 52 rfl dX6_init_51 rfl ?_
  refine v_iconst C.1 0 rfl 53 rfl dX6_init_52 ?_
  have ha : _ = (3, 10, 11) := (hB.2.2.1 0 (by omega)).1
  rw [e0] at ha
  refine v_put C.1 5 fp_X6_30 rfl rfl ha 56 rfl dX6_init_53 ?_
  obtain ⟨V2, hB, x1, x2⟩ := hB.xput (i := 0) (by omega) 5 (.int 0)
  rw [e0] at hB
  generalize pV _ a 5 (.int 0) = σ9 at hB ⊢
  have q0 := (x2 0 0 (by omega)).trans q0
  have q1 := (x2 0 1 (by omega)).trans q1
  have q2 := (x2 0 2 (by omega)).trans q2
  have q3 := (x2 0 3 (by omega)).trans q3
  have q4 := (x2 0 4 (by omega)).trans q4
  have p1 : wR f2 V2 1 := wR_e p1 (fun j hj => rfl) (fun j hj k => x2 _ k (by omega))
  have p39 : wR f2 V2 39 := wR_e p39 (fun j hj => rfl) (fun j hj k => x2 _ k (by omega))
  have p77 : wR f2 V2 77 := wR_e p77 (fun j hj => rfl) (fun j hj k => x2 _ k (by omega))
  have q5 := x1
  clear x1 x2 ha
  refine v_aload_n C.1 0 57 rfl dX6_init_56 rfl ?_
  refine v_newc C.1 nw_RX6_34 ⟨(Nat.le_of_ble_eq_true rfl), (Nat.le_of_ble_eq_true rfl)⟩ 116 1368 rfl rfl 60 rfl dX6_init_57 fun b116 hn => ?_
  rw [hG] at hn
  refine v_dup C.1 rfl 61 rfl dX6_init_60 ?_
  refine v_callI C.1 (st := [.ref b116, .ref a]) (c_X1_init (jMade_a _ _ _ _).1) yi_X1 mi_RX6_36 rfl ⟨(Nat.le_of_ble_eq_true rfl), (Nat.le_of_ble_eq_true rfl)⟩ ⟨(Nat.le_of_ble_eq_true rfl), (Nat.le_of_ble_eq_true rfl)⟩ (Nat.le_of_ble_eq_true rfl) rfl 121 1434 rfl rfl 64 rfl dX6_init_61 (fun r σ10 hr => ?_)
  obtain ⟨rfl, g, W, g0, hI, w0, w1, w2, w3, w4, w5, w6, w7, w8, w9⟩ := hr
  rw [hG] at hI
  obtain ⟨f2, V2, hB, fl, vl, fr, vr⟩ := hB.xcat hn g0 (by decide) hI (fun t ht => xS_f ht) (n' := 122) (by omega)
  simp only [Option.toList, List.nil_append]
  have e0 := (fl 0 (by omega)).trans e0
  have q0 := (vl 0 (by omega) 0).trans (q0.trans (congrArg Value.ref (fl 1 (by omega)).symm))
  have q1 := (vl 0 (by omega) 1).trans (q1.trans (congrArg Value.ref (fl 39 (by omega)).symm))
  have q2 := (vl 0 (by omega) 2).trans (q2.trans (congrArg Value.ref (fl 77 (by omega)).symm))
  have q3 := (vl 0 (by omega) 3).trans q3
  have q4 := (vl 0 (by omega) 4).trans (q4.trans (congrArg Value.ref (fl 115 (by omega)).symm))
  have q5 := (vl 0 (by omega) 5).trans q5
  have p1 : wR f2 V2 1 := wR_e p1 (fun j hj => fl _ (by omega)) (fun j hj k => vl _ (by omega) k)
  have p39 : wR f2 V2 39 := wR_e p39 (fun j hj => fl _ (by omega)) (fun j hj k => vl _ (by omega) k)
  have p77 : wR f2 V2 77 := wR_e p77 (fun j hj => fl _ (by omega)) (fun j hj k => vl _ (by omega) k)
  have p116 : fnF f2 V2 116 := ⟨⟨(vr 0 0).trans (w0.trans (congrArg Value.ref (fr 1).symm)), (vr 0 1).trans (w1.trans (congrArg Value.ref (fr 2).symm)), (vr 0 2).trans (w2.trans (congrArg Value.ref (fr 3).symm)), (vr 0 3).trans (w3.trans (congrArg Value.ref (fr 4).symm)), (vr 4 0).trans (w7.trans (congrArg Value.ref (fr 5).symm)), (vr 4 1).trans w8⟩, fun k => (vr 1 k).trans (w4 k), fun k => (vr 2 k).trans (w5 k), fun k => (vr 3 k).trans (w6 k), fun k => (vr 5 k).trans (w9 k)⟩
  have eb : f2 116 = b116 := (fr 0).trans g0
  clear w0 w1 w2 w3 w4 w5 w6 w7 w8 w9 hI g0
  clear fl vl fr vr hn
  have ha : _ = (3, 10, 11) := (hB.2.2.1 0 (by omega)).1
  rw [e0] at ha
  refine v_putF C.1 hN 6 fp_X6_37 rfl rfl ha 67 rfl dX6_init_64 ?_
  obtain ⟨V2, hB, x1, x2⟩ := hB.xput (i := 0) (by omega) 6 (.ref b116)
  rw [e0] at hB
  generalize pV _ a 6 (.ref b116) = σ11 at hB ⊢
  have q0 := (x2 0 0 (by omega)).trans q0
  have q1 := (x2 0 1 (by omega)).trans q1
  have q2 := (x2 0 2 (by omega)).trans q2
  have q3 := (x2 0 3 (by omega)).trans q3
  have q4 := (x2 0 4 (by omega)).trans q4
  have q5 := (x2 0 5 (by omega)).trans q5
  have p1 : wR f2 V2 1 := wR_e p1 (fun j hj => rfl) (fun j hj k => x2 _ k (by omega))
  have p39 : wR f2 V2 39 := wR_e p39 (fun j hj => rfl) (fun j hj k => x2 _ k (by omega))
  have p77 : wR f2 V2 77 := wR_e p77 (fun j hj => rfl) (fun j hj k => x2 _ k (by omega))
  have p116 : fnF f2 V2 116 := fnF_e p116 (fun j hj => rfl) (fun j hj k => x2 _ k (by omega))
  have q6 : V2 0 6 = .ref (f2 116) := x1.trans (congrArg Value.ref eb.symm)
  clear x1 x2 ha
  refine v_aload_n C.1 0 68 rfl dX6_init_67 rfl ?_
  refine v_newc C.1 nw_RX6_41 ⟨(Nat.le_of_ble_eq_true rfl), (Nat.le_of_ble_eq_true rfl)⟩ 122 1439 rfl rfl 71 rfl dX6_init_68 fun b122 hn => ?_
  rw [hG] at hn
  refine v_dup C.1 rfl 72 rfl dX6_init_71 ?_
  refine v_callI C.1 (st := [.ref b122, .ref a]) (c_X2_init (jMade_a _ _ _ _).1) yi_X2 mi_RX6_43 rfl ⟨(Nat.le_of_ble_eq_true rfl), (Nat.le_of_ble_eq_true rfl)⟩ ⟨(Nat.le_of_ble_eq_true rfl), (Nat.le_of_ble_eq_true rfl)⟩ (Nat.le_of_ble_eq_true rfl) rfl 125 1739 rfl rfl 75 rfl dX6_init_72 (fun r σ12 hr => ?_)
  obtain ⟨rfl, g, W, g0, hI, w0, w1, w2, w3, w4, w5, w6, w7⟩ := hr
  rw [hG] at hI
  obtain ⟨f2, V2, hB, fl, vl, fr, vr⟩ := hB.xcat hn g0 (by decide) hI (fun t ht => xS_s ht) (n' := 126) (by omega)
  simp only [Option.toList, List.nil_append]
  have e0 := (fl 0 (by omega)).trans e0
  have q0 := (vl 0 (by omega) 0).trans (q0.trans (congrArg Value.ref (fl 1 (by omega)).symm))
  have q1 := (vl 0 (by omega) 1).trans (q1.trans (congrArg Value.ref (fl 39 (by omega)).symm))
  have q2 := (vl 0 (by omega) 2).trans (q2.trans (congrArg Value.ref (fl 77 (by omega)).symm))
  have q3 := (vl 0 (by omega) 3).trans q3
  have q4 := (vl 0 (by omega) 4).trans (q4.trans (congrArg Value.ref (fl 115 (by omega)).symm))
  have q5 := (vl 0 (by omega) 5).trans q5
  have q6 := (vl 0 (by omega) 6).trans (q6.trans (congrArg Value.ref (fl 116 (by omega)).symm))
  have p1 : wR f2 V2 1 := wR_e p1 (fun j hj => fl _ (by omega)) (fun j hj k => vl _ (by omega) k)
  have p39 : wR f2 V2 39 := wR_e p39 (fun j hj => fl _ (by omega)) (fun j hj k => vl _ (by omega) k)
  have p77 : wR f2 V2 77 := wR_e p77 (fun j hj => fl _ (by omega)) (fun j hj k => vl _ (by omega) k)
  have p116 : fnF f2 V2 116 := fnF_e p116 (fun j hj => fl _ (by omega)) (fun j hj k => vl _ (by omega) k)
  have p122 : fnS f2 V2 122 := ⟨⟨(vr 0 0).trans (w0.trans (congrArg Value.ref (fr 1).symm)), (vr 0 1).trans w1, (vr 0 2).trans (w2.trans (congrArg Value.ref (fr 2).symm)), (vr 0 3).trans (w3.trans (congrArg Value.ref (fr 3).symm)), (vr 0 4).trans w4⟩, fun k => (vr 1 k).trans (w5 k), fun k => (vr 2 k).trans (w6 k), fun k => (vr 3 k).trans (w7 k)⟩
  have eb : f2 122 = b122 := (fr 0).trans g0
  clear w0 w1 w2 w3 w4 w5 w6 w7 hI g0
  clear fl vl fr vr hn
  have ha : _ = (3, 10, 11) := (hB.2.2.1 0 (by omega)).1
  rw [e0] at ha
  refine v_putF C.1 hN 7 fp_X6_44 rfl rfl ha 78 rfl dX6_init_75 ?_
  obtain ⟨V2, hB, x1, x2⟩ := hB.xput (i := 0) (by omega) 7 (.ref b122)
  rw [e0] at hB
  generalize pV _ a 7 (.ref b122) = σ13 at hB ⊢
  have q0 := (x2 0 0 (by omega)).trans q0
  have q1 := (x2 0 1 (by omega)).trans q1
  have q2 := (x2 0 2 (by omega)).trans q2
  have q3 := (x2 0 3 (by omega)).trans q3
  have q4 := (x2 0 4 (by omega)).trans q4
  have q5 := (x2 0 5 (by omega)).trans q5
  have q6 := (x2 0 6 (by omega)).trans q6
  have p1 : wR f2 V2 1 := wR_e p1 (fun j hj => rfl) (fun j hj k => x2 _ k (by omega))
  have p39 : wR f2 V2 39 := wR_e p39 (fun j hj => rfl) (fun j hj k => x2 _ k (by omega))
  have p77 : wR f2 V2 77 := wR_e p77 (fun j hj => rfl) (fun j hj k => x2 _ k (by omega))
  have p116 : fnF f2 V2 116 := fnF_e p116 (fun j hj => rfl) (fun j hj k => x2 _ k (by omega))
  have p122 : fnS f2 V2 122 := fnS_e p122 (fun j hj => rfl) (fun j hj k => x2 _ k (by omega))
  have q7 : V2 0 7 = .ref (f2 122) := x1.trans (congrArg Value.ref eb.symm)
  clear x1 x2 ha
  refine v_aload_n C.1 0 79 rfl dX6_init_78 rfl ?_
  refine v_iconst C.1 (-1) rfl 80 rfl dX6_init_79 ?_
  have ha : _ = (3, 10, 11) := (hB.2.2.1 0 (by omega)).1
  rw [e0] at ha
  refine v_put C.1 8 fp_X6_48 rfl rfl ha 83 rfl dX6_init_80 ?_
  obtain ⟨V2, hB, x1, x2⟩ := hB.xput (i := 0) (by omega) 8 (.int (-1))
  rw [e0] at hB
  generalize pV _ a 8 (.int (-1)) = σ14 at hB ⊢
  have q0 := (x2 0 0 (by omega)).trans q0
  have q1 := (x2 0 1 (by omega)).trans q1
  have q2 := (x2 0 2 (by omega)).trans q2
  have q3 := (x2 0 3 (by omega)).trans q3
  have q4 := (x2 0 4 (by omega)).trans q4
  have q5 := (x2 0 5 (by omega)).trans q5
  have q6 := (x2 0 6 (by omega)).trans q6
  have q7 := (x2 0 7 (by omega)).trans q7
  have p1 : wR f2 V2 1 := wR_e p1 (fun j hj => rfl) (fun j hj k => x2 _ k (by omega))
  have p39 : wR f2 V2 39 := wR_e p39 (fun j hj => rfl) (fun j hj k => x2 _ k (by omega))
  have p77 : wR f2 V2 77 := wR_e p77 (fun j hj => rfl) (fun j hj k => x2 _ k (by omega))
  have p116 : fnF f2 V2 116 := fnF_e p116 (fun j hj => rfl) (fun j hj k => x2 _ k (by omega))
  have p122 : fnS f2 V2 122 := fnS_e p122 (fun j hj => rfl) (fun j hj k => x2 _ k (by omega))
  have q8 := x1
  clear x1 x2 ha
  refine v_aload_n C.1 0 84 rfl dX6_init_83 rfl ?_
  refine v_iconst C.1 (-1) rfl 85 rfl dX6_init_84 ?_
  have ha : _ = (3, 10, 11) := (hB.2.2.1 0 (by omega)).1
  rw [e0] at ha
  refine v_put C.1 9 fp_X6_51 rfl rfl ha 88 rfl dX6_init_85 ?_
  obtain ⟨V2, hB, x1, x2⟩ := hB.xput (i := 0) (by omega) 9 (.int (-1))
  rw [e0] at hB
  generalize pV _ a 9 (.int (-1)) = σ15 at hB ⊢
  have q0 := (x2 0 0 (by omega)).trans q0
  have q1 := (x2 0 1 (by omega)).trans q1
  have q2 := (x2 0 2 (by omega)).trans q2
  have q3 := (x2 0 3 (by omega)).trans q3
  have q4 := (x2 0 4 (by omega)).trans q4
  have q5 := (x2 0 5 (by omega)).trans q5
  have q6 := (x2 0 6 (by omega)).trans q6
  have q7 := (x2 0 7 (by omega)).trans q7
  have q8 := (x2 0 8 (by omega)).trans q8
  have p1 : wR f2 V2 1 := wR_e p1 (fun j hj => rfl) (fun j hj k => x2 _ k (by omega))
  have p39 : wR f2 V2 39 := wR_e p39 (fun j hj => rfl) (fun j hj k => x2 _ k (by omega))
  have p77 : wR f2 V2 77 := wR_e p77 (fun j hj => rfl) (fun j hj k => x2 _ k (by omega))
  have p116 : fnF f2 V2 116 := fnF_e p116 (fun j hj => rfl) (fun j hj k => x2 _ k (by omega))
  have p122 : fnS f2 V2 122 := fnS_e p122 (fun j hj => rfl) (fun j hj k => x2 _ k (by omega))
  have q9 := x1
  clear x1 x2 ha
  refine v_aload_n C.1 0 89 rfl dX6_init_88 rfl ?_
  refine v_newc C.1 nw_RX6_54 ⟨(Nat.le_of_ble_eq_true rfl), (Nat.le_of_ble_eq_true rfl)⟩ 126 1743 rfl rfl 92 rfl dX6_init_89 fun b126 hn => ?_
  rw [hG] at hn
  refine v_dup C.1 rfl 93 rfl dX6_init_92 ?_
  have hno6 : ∀ b, ((jMade _ b126 (3, 1, 4) (fun k => defaultValue (tyJ4 k))).1 b).1 ≠ 6 := fun b => by
    by_cases z : b = b126
    · rw [z, (jMade_a _ _ _ _).1]; decide
    · rw [(jMade_n _ _ _ z).1]; exact hB.no6 hno b
  refine v_callI C.1 (st := [.ref b126, .ref a]) (c_J4_init (jMade_a _ _ _ _).1 ((jMade_a _ _ _ _).2 2) ((jMade_a _ _ _ _).2 3) hno6) yi_J4 mi_RX6_56 rfl ⟨(Nat.le_of_ble_eq_true rfl), (Nat.le_of_ble_eq_true rfl)⟩ ⟨(Nat.le_of_ble_eq_true rfl), (Nat.le_of_ble_eq_true rfl)⟩ (Nat.le_of_ble_eq_true rfl) rfl 127 1759 rfl rfl 96 rfl dX6_init_93 (fun r σ16 hr => ?_)
  obtain ⟨rfl, rfl⟩ := hr
  obtain ⟨f2, V2, hB, fl, vl, fr, vr⟩ := hB.xcat hn (g := fun _ => b126) (m := 1) rfl (by decide) Blk.txt (fun t ht => by obtain rfl : t = 0 := (by omega); rfl) (n' := 127) (by omega)
  generalize jTxt _ b126 = σ16 at hB ⊢
  simp only [Option.toList, List.nil_append]
  have e0 := (fl 0 (by omega)).trans e0
  have q0 := (vl 0 (by omega) 0).trans (q0.trans (congrArg Value.ref (fl 1 (by omega)).symm))
  have q1 := (vl 0 (by omega) 1).trans (q1.trans (congrArg Value.ref (fl 39 (by omega)).symm))
  have q2 := (vl 0 (by omega) 2).trans (q2.trans (congrArg Value.ref (fl 77 (by omega)).symm))
  have q3 := (vl 0 (by omega) 3).trans q3
  have q4 := (vl 0 (by omega) 4).trans (q4.trans (congrArg Value.ref (fl 115 (by omega)).symm))
  have q5 := (vl 0 (by omega) 5).trans q5
  have q6 := (vl 0 (by omega) 6).trans (q6.trans (congrArg Value.ref (fl 116 (by omega)).symm))
  have q7 := (vl 0 (by omega) 7).trans (q7.trans (congrArg Value.ref (fl 122 (by omega)).symm))
  have q8 := (vl 0 (by omega) 8).trans q8
  have q9 := (vl 0 (by omega) 9).trans q9
  have p1 : wR f2 V2 1 := wR_e p1 (fun j hj => fl _ (by omega)) (fun j hj k => vl _ (by omega) k)
  have p39 : wR f2 V2 39 := wR_e p39 (fun j hj => fl _ (by omega)) (fun j hj k => vl _ (by omega) k)
  have p77 : wR f2 V2 77 := wR_e p77 (fun j hj => fl _ (by omega)) (fun j hj k => vl _ (by omega) k)
  have p116 : fnF f2 V2 116 := fnF_e p116 (fun j hj => fl _ (by omega)) (fun j hj k => vl _ (by omega) k)
  have p122 : fnS f2 V2 122 := fnS_e p122 (fun j hj => fl _ (by omega)) (fun j hj k => vl _ (by omega) k)
  have p126 : ∀ k, V2 126 k = .int 0 := fun k => vr 0 k
  have eb : f2 126 = b126 := fr 0
  clear fl vl fr vr hn
  clear hno6
  have ha : _ = (3, 10, 11) := (hB.2.2.1 0 (by omega)).1
  rw [e0] at ha
  refine v_putF C.1 hN 10 fp_X6_57 rfl rfl ha 99 rfl dX6_init_96 ?_
  obtain ⟨V2, hB, x1, x2⟩ := hB.xput (i := 0) (by omega) 10 (.ref b126)
  rw [e0] at hB
  generalize pV _ a 10 (.ref b126) = σ17 at hB ⊢
  have q0 := (x2 0 0 (by omega)).trans q0
  have q1 := (x2 0 1 (by omega)).trans q1
  have q2 := (x2 0 2 (by omega)).trans q2
  have q3 := (x2 0 3 (by omega)).trans q3
  have q4 := (x2 0 4 (by omega)).trans q4
  have q5 := (x2 0 5 (by omega)).trans q5
  have q6 := (x2 0 6 (by omega)).trans q6
  have q7 := (x2 0 7 (by omega)).trans q7
  have q8 := (x2 0 8 (by omega)).trans q8
  have q9 := (x2 0 9 (by omega)).trans q9
  have p1 : wR f2 V2 1 := wR_e p1 (fun j hj => rfl) (fun j hj k => x2 _ k (by omega))
  have p39 : wR f2 V2 39 := wR_e p39 (fun j hj => rfl) (fun j hj k => x2 _ k (by omega))
  have p77 : wR f2 V2 77 := wR_e p77 (fun j hj => rfl) (fun j hj k => x2 _ k (by omega))
  have p116 : fnF f2 V2 116 := fnF_e p116 (fun j hj => rfl) (fun j hj k => x2 _ k (by omega))
  have p122 : fnS f2 V2 122 := fnS_e p122 (fun j hj => rfl) (fun j hj k => x2 _ k (by omega))
  have p126 : ∀ k, V2 126 k = .int 0 := fun k => (x2 _ k (by omega)).trans (p126 k)
  have q10 : V2 0 10 = .ref (f2 126) := x1.trans (congrArg Value.ref eb.symm)
  clear x1 x2 ha
  refine v_iconst C.1 0 rfl 100 rfl dX6_init_99 ?_
  refine v_istore_n C.1 (lv' := [(0, .ref a), (1, .int (oN 0))]) [1, 0] 101 rfl dX6_init_100 (Nat.le_of_ble_eq_true rfl) rfl ?_
  exact shop_past C hl hG ho 8 0 _ f2 V2 (by omega) e0 hB ⟨⟨q0, q1, q2, q3, q4, q5, q6, q7, q8, q9, q10⟩, ⟨p1, p39, p77⟩, p116, p122, p126⟩ (fun c hc => absurd hc (Nat.not_lt_zero _))
