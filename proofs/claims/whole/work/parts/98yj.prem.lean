/-! ===== the premises of the start, as the walk needs them ===== -/
def pmL : List Cond := flatC (Jvm.Cond.and given_1 narrow_1)
def pmS (own : String) (k : Nat) (bs : List Int32) : List Cond := [.exactly (.string own k) "java/lang/String", .eq (.field (.string own k) "java/lang/String" "coder" "B") (.int 0), .arrayOf (.field (.string own k) "java/lang/String" "value" "[B") .byte, .eq (.length (.field (.string own k) "java/lang/String" "value" "[B")) (.int (Int32.ofNat bs.length))] ++ (List.range bs.length).map (fun j => .eq (.elem (.field (.string own k) "java/lang/String" "value" "[B") (.int (Int32.ofNat j))) (.int (bs.getD j 0)))
def pmD (n : String) (f : Nat → Int32) : List Cond := [.isRef (.static "java/lang/Integer" n "[B"), .arrayOf (.static "java/lang/Integer" n "[B") .byte, .eq (.length (.static "java/lang/Integer" n "[B")) (.int 100)] ++ (List.range 100).map (fun j => .eq (.elem (.static "java/lang/Integer" n "[B") (.int (Int32.ofNat j))) (.int (f j)))
/-- where the words of each text constant begin -/
def pmP : List Nat := [371, 387, 429, 464, 495, 539, 556, 576, 591, 607, 627, 645, 670, 698, 729, 736, 750, 766, 771, 801, 818, 855, 884, 895, 911, 924, 936, 947, 958, 972, 987, 1000, 1011, 1057, 1091, 1121, 1154, 1173]
def pmQ (i : Nat) : String × Nat × String := jstrs.getD i ("", 0, "")
theorem pm_str : ∀ i, i < 38 → (pmL.drop (pmP.getD i 0)).take (4 + (jbyts.getD i []).length) = pmS (pmQ i).1 (pmQ i).2.1 (jbyts.getD i []) := by decide +kernel
theorem pm_ref : ∀ i, i < 38 → Cond.stringRef (pmQ i).1 (pmQ i).2.1 (pmQ i).2.2 ∈ lw_tbl := by decide +kernel
theorem pm_len : ∀ i, i < 38 → (jbyts.getD i []).length < 2 ^ 31 := by decide +kernel
theorem pm_ones : (pmL.drop 11).take 103 = pmD "DigitOnes" (fun j => Int32.ofNat (48 + j % 10)) := by decide +kernel
theorem pm_tens : (pmL.drop 114).take 103 = pmD "DigitTens" (fun j => Int32.ofNat (48 + j / 10)) := by decide +kernel
theorem pm_cast : ∀ E1 ∈ jexc, ∀ E2 ∈ jexc, E1 ≠ E2 → Cond.not (.castable E1 E2) ∈ pmL := by decide +kernel
theorem pm_mem {b n : Nat} {w : Cond} {X : List Cond} (h : (pmL.drop b).take n = X) (hw : w ∈ X) : w ∈ pmL := by
  rw [← h] at hw
  exact List.mem_of_mem_drop (List.mem_of_mem_take hw)
section PREM
variable {args : Array Value} {s : State} {A : Nat → Prop}
theorem pm_text (hs : ∀ w ∈ pmL, w.before args s = true) (hts : ∀ w ∈ lw_tbl, w.before args s = true) (hA : ∀ a : Nat, a < s.heap.size → ¬ A a) {i : Nat} (hi : i < 38) : ∃ q : Nat × Nat, vk_R (pmQ i).1 (pmQ i).2.1 (pmQ i).2.2 q.1 s ∧ vk_S 1 [(jbyts.getD i []).length] [jbyts.getD i []] (fun _ => q.1) (fun _ => q.2) A s s.heap := by
  have hm : ∀ w ∈ pmS (pmQ i).1 (pmQ i).2.1 (jbyts.getD i []), w.before args s = true := fun w hw => hs w (pm_mem (pm_str i hi) hw)
  have hr := hts _ (pm_ref i hi)
  have hl := pm_len i hi
  generalize jbyts.getD i [] = bs at hm hl ⊢
  generalize (pmQ i).1 = own at hm hr ⊢
  generalize (pmQ i).2.1 = k at hm hr ⊢
  generalize (pmQ i).2.2 = tx at hr ⊢
  have z : ∀ j : Nat, j < 1 → j = 0 := fun j hj => by omega
  obtain ⟨adK, adV, h1, h2⟩ := vk_Sof (args := args) (s := s) (N := 1) (tm := fun _ => .string own k) (len := [bs.length]) (byt := [bs]) (A := A)
    (fun j hj => by rw [z j hj]; exact hl)
    (fun j hj => hm _ (List.mem_append_left _ (List.mem_cons_self ..)))
    (fun j hj => hm _ (List.mem_append_left _ (List.mem_cons_of_mem _ (List.mem_cons_self ..))))
    (fun j hj => hm _ (List.mem_append_left _ (List.mem_cons_of_mem _ (List.mem_cons_of_mem _ (List.mem_cons_self ..)))))
    (fun j hj => by rw [z j hj]; exact hm _ (List.mem_append_left _ (List.mem_cons_of_mem _ (List.mem_cons_of_mem _ (List.mem_cons_of_mem _ (List.mem_cons_self ..))))))
    (fun j hj x hx => by
      rw [z j hj] at hx ⊢
      exact hm _ (List.mem_append_right _ (List.mem_map.mpr ⟨x, List.mem_range.mpr hx, rfl⟩)))
    (fun a b ha hb hab => absurd ((z a ha).trans (z b hb).symm) hab) hA
  refine ⟨(adK 0, adV 0), vk_R.of hr (h2 0 (by decide)), ⟨fun j hj => ?_, fun a b ha hb _ => (z a ha).trans (z b hb).symm⟩⟩
  have := h1.1 0 (by decide)
  rw [z j hj]
  exact this
theorem pm_dig (hs : ∀ w ∈ pmL, w.before args s = true) (hA : ∀ a : Nat, a < s.heap.size → ¬ A a) {n : String} {f : Nat → Int32} {b : Nat} (h : (pmL.drop b).take 103 = pmD n f) (hl : (Cond.laysStatic "java/lang/Integer" n "[B").before args s = true) (hini : (Cond.initialized "java/lang/Integer").before args s = true) : ∃ t : Nat, va_Z "java/lang/Integer" n "[B" (.ref t) A s s.heap ∧ va_T .byte t 100 (fun j => .int (f j)) A s s.heap := by
  have hm : ∀ w ∈ pmD n f, w.before args s = true := fun w hw => hs w (pm_mem h hw)
  obtain ⟨t, ht, hT⟩ := va_Tof (args := args) (s := s) (tm := .static "java/lang/Integer" n "[B") (ty := .byte) (N := 100) (f := fun j => .int (f j)) (A := A) (by decide)
    (hm _ (List.mem_append_left _ (List.mem_cons_of_mem _ (List.mem_cons_self ..))))
    (va_eqt (hm _ (List.mem_append_left _ (List.mem_cons_of_mem _ (List.mem_cons_of_mem _ (List.mem_cons_self ..))))))
    (fun j hj => va_eqt (hm _ (List.mem_append_right _ (List.mem_map.mpr ⟨j, List.mem_range.mpr hj, rfl⟩)))) hA
  exact ⟨t, va_Zref hl hini ht hA, hT⟩
theorem pm_J0 : ∀ w ∈ u_ws RJ0 TJ0 4, w ∈ TB := TB_all (by decide +kernel)
theorem pm_x6 : ∀ w ∈ u_ws RJx00060 TJx00060 6, w ∈ TB := TB_all (by decide +kernel)
theorem pm_x7 : ∀ w ∈ u_ws RJx7c733 TJx7c733 6, w ∈ TB := TB_all (by decide +kernel)
theorem TB_lw {w : Cond} (h : w ∈ TB) : w ∈ lw_tbl := (List.mem_filter.mp h).1
theorem pm_cls (hT : ∀ w ∈ TB, w.before args s = true) : ∃ (dC : Nat → ClassId) (dI : Nat → Nat → Nat), ∀ (k : Nat) (q : vw_C), vwCl[k]? = some q → u_Kn s q.1 q.2.1 q.2.2 (dC k) (dI k) := by
  have h0 : ∀ k : Nat, ∃ x : ClassId × (Nat → Nat), ∀ q : vw_C, vwCl[k]? = some q → u_Kn s q.1 q.2.1 q.2.2 x.1 x.2 := by
    intro k
    have mk : ∀ {C : String} {T : u_T} {N : Nat}, vwCl[k]? = some (C, T, N) → (∀ w ∈ u_ws C T N, w ∈ TB) → Cond.instantiable C N ∈ TB → ∃ x : ClassId × (Nat → Nat), ∀ q : vw_C, vwCl[k]? = some q → u_Kn s q.1 q.2.1 q.2.2 x.1 x.2 := by
      intro C T N e hin hi
      obtain ⟨cC, iS, h⟩ := u_known (n := N) hT hin (hT _ hi)
      refine ⟨(cC, iS), fun q hq => ?_⟩
      rw [e] at hq
      cases hq
      exact h
    match k with
    | 0 => exact mk (C := RJ0) (T := TJ0) (N := 4) rfl pm_J0 (TB_in (by decide +kernel) (by decide +kernel))
    | 1 => exact mk (C := RJ4) (T := TJ4) (N := 4) rfl sb_in (TB_in (by decide +kernel) (by decide +kernel))
    | 2 => exact mk (C := RJx00060) (T := TJx00060) (N := 6) rfl pm_x6 (TB_in (by decide +kernel) (by decide +kernel))
    | 3 => exact mk (C := RJx7c733) (T := TJx7c733) (N := 6) rfl pm_x7 (TB_in (by decide +kernel) (by decide +kernel))
    | 4 => exact mk (C := RX0) (T := TX0) (N := 2) rfl in_X0 (TB_in (by decide +kernel) (by decide +kernel))
    | 5 => exact mk (C := RX1) (T := TX1) (N := 4) rfl in_X1 (TB_in (by decide +kernel) (by decide +kernel))
    | 6 => exact mk (C := RX2) (T := TX2) (N := 5) rfl in_X2 (TB_in (by decide +kernel) (by decide +kernel))
    | 7 => exact mk (C := RX3) (T := TX3) (N := 2) rfl in_X3 (TB_in (by decide +kernel) (by decide +kernel))
    | 8 => exact mk (C := RX4) (T := TX4) (N := 8) rfl in_X4 (TB_in (by decide +kernel) (by decide +kernel))
    | 9 => exact mk (C := RX5) (T := TX5) (N := 11) rfl in_X5 (TB_in (by decide +kernel) (by decide +kernel))
    | 10 => exact mk (C := RX6) (T := TX6) (N := 11) rfl in_X6 (TB_in (by decide +kernel) (by decide +kernel))
    | 11 => exact mk (C := RX7) (T := TX7) (N := 22) rfl in_X7 (TB_in (by decide +kernel) (by decide +kernel))
    | k + 12 => exact ⟨(0, fun _ => 0), fun q hq => by simp [vwCl] at hq⟩
  obtain ⟨x, hx⟩ := Classical.axiomOfChoice h0
  exact ⟨fun k => (x k).1, fun k => (x k).2, hx⟩
theorem pm_ty (hT : ∀ w ∈ TB, w.before args s = true) : ∃ tC : Nat → ClassId, ∀ t, t < 8 → ArrOfT s (tC t) (j_aty t) ∧ va_RA s (tC t) (j_aty t) := by
  have h0 : ∀ t : Nat, ∃ c : ClassId, t < 8 → ArrOfT s c (j_aty t) ∧ va_RA s c (j_aty t) := by
    intro t
    have obj : ∀ {C : String}, Cond.arrayOver (.object C) ∈ TB → ∃ c : ClassId, ArrOfT s c (.object C) ∧ va_RA s c (.object C) := by
      intro C h
      obtain ⟨comp, cA, kA, f0, -, f2, f3, f4⟩ := Cond.arrayOver_spec (args := args) (first := s) (o := none) (s := s) (idx := []) (hT _ h)
      exact ⟨cA, fun N z => ⟨(fun k h => by cases h), kA, f2, comp, f3⟩, kA, comp, f2, f3, f0, f4⟩
    have prim : ∀ {ty : FieldType}, Cond.arrayClass ty ∈ TB → ∃ c : ClassId, ArrOfT s c ty ∧ s.vm.findClass ("[" ++ ty.toString) = some c := by
      intro ty h
      obtain ⟨cA, kA, comp, h1, h2, h3⟩ := Cond.arrayClass_spec (args := args) (first := s) (o := none) (s := s) (idx := []) (hT _ h)
      exact ⟨cA, fun n z => ⟨fun k h => (by cases h), kA, h2, comp, h3⟩, h1⟩
    match t with
    | 0 => obtain ⟨c, h1, h2⟩ := prim ar_0; exact ⟨c, fun _ => ⟨h1, h2⟩⟩
    | 1 => obtain ⟨c, h1, h2⟩ := prim ar_1; exact ⟨c, fun _ => ⟨h1, h2⟩⟩
    | 2 => obtain ⟨c, h1, h2⟩ := prim ar_2; exact ⟨c, fun _ => ⟨h1, h2⟩⟩
    | 3 => obtain ⟨c, h1, h2⟩ := prim ar_3; exact ⟨c, fun _ => ⟨h1, h2⟩⟩
    | 4 => obtain ⟨c, h1, h2⟩ := prim ar_4; exact ⟨c, fun _ => ⟨h1, h2⟩⟩
    | 5 => obtain ⟨c, h⟩ := obj ao_X0; exact ⟨c, fun _ => h⟩
    | 6 => obtain ⟨c, h⟩ := obj ao_X4; exact ⟨c, fun _ => h⟩
    | 7 => obtain ⟨c, h⟩ := obj ao_X5; exact ⟨c, fun _ => h⟩
    | t + 8 => exact ⟨0, fun h => absurd h (by omega)⟩
  obtain ⟨x, hx⟩ := Classical.axiomOfChoice h0
  exact ⟨x, hx⟩
theorem pm_start {l : Launch} (hl : l.stackTraces = false) (hts : ∀ w ∈ lw_tbl, w.before args s = true) (hgv : (Jvm.Cond.and given_1 narrow_1).before args s = true) : ∃ G : jG, G.2.2.1 = s.heap ∧ va_K G.1 vwCl (jtys G) s ∧ jE l G s := by
  have hs : ∀ w ∈ pmL, w.before args s = true := flat_of_before _ hgv
  have hT : ∀ w ∈ TB, w.before args s = true := fun w h => hts w (TB_lw h)
  have hA : ∀ a : Nat, a < s.heap.size → ¬ (fun q : Nat => s.heap.size ≤ q) a := fun a ha => Nat.not_le.mpr ha
  obtain ⟨dC, dI, hC⟩ := pm_cls hT
  obtain ⟨tC, hY⟩ := pm_ty hT
  have h0 : ∀ i : Nat, ∃ q : Nat × Nat, i < 38 → vk_R (pmQ i).1 (pmQ i).2.1 (pmQ i).2.2 q.1 s ∧ vk_S 1 [(jbyts.getD i []).length] [jbyts.getD i []] (fun _ => q.1) (fun _ => q.2) (fun q : Nat => s.heap.size ≤ q) s s.heap := by
    intro i
    by_cases hi : i < 38
    · obtain ⟨q, hq⟩ := pm_text hs hts hA hi
      exact ⟨q, fun _ => hq⟩
    · exact ⟨(0, 0), fun h => absurd h hi⟩
  obtain ⟨kv, hkv⟩ := Classical.axiomOfChoice h0
  obtain ⟨t1, z1, y1⟩ := pm_dig hs hA pm_ones (hts _ (by decide +kernel)) (hts _ (by decide +kernel))
  obtain ⟨t2, z2, y2⟩ := pm_dig hs hA pm_tens (hts _ (by decide +kernel)) (hts _ (by decide +kernel))
  refine ⟨((dC, dI), tC, s.heap, fun i => if i = 100 then t1 else if i = 101 then t2 else (kv i).1, fun i => (kv i).2), rfl, ⟨hC, fun k q hk => ?_⟩, ⟨hl, ?_, ?_, fun i q hq => ?_, fun i q hq => ?_, ?_, ⟨z1, y1⟩, ⟨z2, y2⟩, fun E1 h1 E2 h2 h3 => va_Nc.of (hs _ (pm_cast E1 h1 E2 h2 h3)), ?_⟩⟩
  · by_cases z : k < 8
    · rw [jtys_at _ z] at hk
      cases hk
      exact hY k z
    · rw [List.getElem?_eq_none (by simp [jtys]; omega)] at hk
      cases hk
  · exact vx_Zqof (hts _ (by decide +kernel)) (hts _ (by decide +kernel)) (hs _ (by decide +kernel)) hA
  · exact vx_Zqof (hts _ (by decide +kernel)) (hts _ (by decide +kernel)) (hs _ (by decide +kernel)) hA
  · have hi : i < 38 := (List.getElem?_eq_some_iff.mp hq).1
    have e : pmQ i = q := by unfold pmQ; rw [List.getD_eq_getElem?_getD, hq]; rfl
    have := (hkv i hi).1
    rw [e] at this
    show vk_R q.1 q.2.1 q.2.2 (if i = 100 then t1 else if i = 101 then t2 else (kv i).1) s
    rw [if_neg (by omega), if_neg (by omega)]
    exact this
  · have hi : i < 38 := (List.getElem?_eq_some_iff.mp hq).1
    have e : jbyts.getD i [] = q := by rw [List.getD_eq_getElem?_getD, hq]; rfl
    have := (hkv i hi).2
    rw [e] at this
    show vk_S 1 [q.length] [q] (fun _ => if i = 100 then t1 else if i = 101 then t2 else (kv i).1) (fun _ => (kv i).2) _ s s.heap
    rw [if_neg (by omega), if_neg (by omega)]
    exact this
  · exact va_Zof (hts _ (by decide +kernel)) (hts _ (by decide +kernel)) (va_eqi (hs _ (by decide +kernel))) hA
  · exact va_Zqof (hts _ (by decide +kernel)) (hts _ (by decide +kernel)) (hs _ (by decide +kernel)) hA
end PREM
