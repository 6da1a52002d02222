/-! ===== layer 3: the calls of the law: changes, undo, save, restore ===== -/
theorem er0 {v : Nat → Int32} {a b e : Int32} (h : o0 v a b = .error e) : e = -2 ∨ e = -3 ∨ e = -5 := by
  unfold o0 at h
  (repeat' split at h) <;> cases h <;> decide
theorem er1 {v : Nat → Int32} {a b e : Int32} (h : o1 v a b = .error e) : e = -3 ∨ e = -4 := by
  unfold o1 at h
  (repeat' split at h) <;> cases h <;> decide
theorem er2 {v : Nat → Int32} {a b c e : Int32} (h : o2 v a b c = .error e) : e = -2 ∨ e = -3 := by
  unfold o2 at h
  (repeat' split at h) <;> cases h <;> decide
theorem er3 {v : Nat → Int32} {a b e : Int32} (h : o3 v a b = .error e) : e = -2 ∨ e = -4 := by
  unfold o3 at h
  (repeat' split at h) <;> cases h <;> decide
theorem oS_e {v : Nat → Int32} {id e : Int32} {g : Nat → oR} {P : Int32 → Prop} (h0 : P (-1)) (hg : ∀ s x, g s = .error x → P x) (h : oS v id g = .error e) : P e := by
  unfold oS at h
  cases hf : fd v id with
  | none => rw [hf] at h; injection h with h; rw [← h]; exact h0
  | some s => rw [hf] at h; exact hg s e h
theorem er4 {v : Nat → Int32} {a b e : Int32} (h : o4 v a b = .error e) : e = -1 ∨ e = -2 ∨ e = -4 ∨ e = -5 := by
  refine oS_e (P := fun e => e = -1 ∨ e = -2 ∨ e = -4 ∨ e = -5) (by decide) (fun s x h => ?_) h
  (repeat' split at h) <;> cases h <;> decide
theorem er5 {v : Nat → Int32} {a b e : Int32} (h : o5 v a b = .error e) : e = -1 ∨ e = -2 ∨ e = -4 ∨ e = -5 := by
  refine oS_e (P := fun e => e = -1 ∨ e = -2 ∨ e = -4 ∨ e = -5) (by decide) (fun s x h => ?_) h
  (repeat' split at h) <;> cases h <;> decide
theorem er6 {v : Nat → Int32} {a b e : Int32} (h : o6 v a b = .error e) : e = -1 ∨ e = -2 ∨ e = -4 ∨ e = -5 := by
  refine oS_e (P := fun e => e = -1 ∨ e = -2 ∨ e = -4 ∨ e = -5) (by decide) (fun s x h => ?_) h
  (repeat' split at h) <;> cases h <;> decide
theorem er7 {v : Nat → Int32} {a b c e : Int32} (h : o7 v a b c = .error e) : e = -1 ∨ e = -2 ∨ e = -3 ∨ e = -4 ∨ e = -5 := by
  refine oS_e (P := fun e => e = -1 ∨ e = -2 ∨ e = -3 ∨ e = -4 ∨ e = -5) (by decide) (fun s x h => ?_) h
  (repeat' split at h) <;> cases h <;> decide
theorem er8 {v : Nat → Int32} {a e : Int32} (h : o8 v a = .error e) : e = -1 ∨ e = -4 := by
  refine oS_e (P := fun e => e = -1 ∨ e = -4) (by decide) (fun s x h => ?_) h
  (repeat' split at h) <;> cases h <;> decide
theorem er9 {v : Nat → Int32} {a e : Int32} (h : o9 v a = .error e) : e = -1 := by
  unfold o9 oS at h
  (repeat' split at h) <;> cases h <;> decide
theorem ex1 : exK (-1) = "java/util/NoSuchElementException" := rfl
theorem ex2 : exK (-2) = "java/lang/IndexOutOfBoundsException" := rfl
theorem ex3 : exK (-3) = "java/lang/IllegalArgumentException" := rfl
theorem ex4 : exK (-4) = "java/lang/IllegalStateException" := rfl
theorem ex5 : exK (-5) = "java/lang/UnsupportedOperationException" := rfl
section CHANGES
variable {ad : Nat → Nat} {κ κ1 κ2 κ3 : jKt} {pr tr : Nat} {pa : Nat → Nat} {su : Nat → Nat → Nat} {v : Nat → Int32} {K K' ch : Nat} {ps : Nat → Nat → Int32} {hs : Int32} {sv : Nat → Int32}
theorem CH.z2 (h : CH ad κ v ch ps hs sv) (hG : GH v ch ps hs sv K) (z : ZF2 ad κ κ1) : CH ad κ1 v ch ps hs sv :=
  h.k hG (fun j hj => z 0 j (by unfold Zf; omega)) (fun j => z 1 j (by unfold Zf; omega)) (fun n j _ hs => z n j (fun g => hs (Zf2_i g))) (fun n j hn => z n j (by unfold Zf; omega))
theorem CH.me (h : CH ad κ v ch ps hs sv) (hG : GH v ch ps hs sv K) (f : FMe ad κ κ1) : CH ad κ1 v ch ps hs sv :=
  h.k hG (fun j hj => f 0 j (by omega) (by omega)) (fun j => f 1 j (by omega) (by omega)) (fun n j _ hs => f n j (fun g => hs (iSl_21 j ⟨g.1, by omega⟩)) (fun g => hs (by rw [g.1]; exact iSl_20 (by omega)))) (fun n j hn => f n j (by omega) (by omega))
theorem MH.cl (h : MH ad κ v ch ps hs sv) (f : FCl ad κ κ1) (z : ZF2 ad κ1 κ2) : MH ad κ2 v ch ps hs sv :=
  h.k (fun n j hn => by rw [z.i (by unfold Zf; omega)]; unfold iS kI; rw [f n j (by omega)])
theorem FMe.i (h : FMe ad κ κ1) {n j : Nat} (h1 : ¬ (21 ≤ n ∧ n ≤ 24)) (h2 : ¬ (n = 20 ∧ (j = 0 ∨ j = 1 ∨ j = 4))) : iS ad κ1 n j = iS ad κ n j := by
  unfold iS kI
  rw [h n j h1 h2]
/-- a call that changes rows is over -/
theorem INV_step {v' : Nat → Int32} {ch' : Nat} {ps' : Nat → Nat → Int32} {hs' : Int32} {sv' : Nat → Int32} (hI : INV ad κ K) (fc : FCl ad κ κ1) (z : ZF2 ad κ1 κ2) (fm : FMe ad κ2 κ3) (hC : CH ad κ1 v' ch' ps' hs' sv') (hM : MH ad κ3 v' ch' ps' hs' sv') (hG : GH v' ch' ps' hs' sv' K') : INV ad κ3 K' := by
  obtain ⟨-, h4, h5, h6, h7⟩ := hI
  have e : ∀ n j, Yf n j → iS ad κ3 n j = iS ad κ n j := fun n j hy => by
    rw [fm.i (by unfold Yf at hy; omega) (by unfold Yf at hy; omega), z.i (by unfold Zf; unfold Yf at hy; omega)]
    unfold iS kI
    rw [fc n j (by unfold Yf at hy; omega)]
  exact ⟨⟨v', ch', ps', hs', sv', (hC.z2 hG z).me hG fm, hM, hG⟩, h4.k e, h5.k e, h6.k e, h7.k e⟩
theorem kL_m (f : FMe ad κ κ1) : kL κ1 (ad 40) 0 = kL κ (ad 40) 0 := by
  unfold kL
  rw [f 40 0 (by omega) (by omega)]
theorem LS_change (hi : ∀ a b, ad a = ad b → a = b) (hI : INV ad κ K) (hK : K < 2 ^ 30) {k : Nat} (hk : k < 10) (a b c : Int32) {cl : Option (Int32 × jKt)} {md f : jKt → Option (Int32 × jKt)}
    (hok : ∀ x κ1, P_X6_change κ (ad 0) (oN k) a b c = some (.ok x, κ1) → cl = some (0, kU κ1 (ad 40) 0 (.long x.toInt64)))
    (her : ∀ e v κ1, oK k v a b c = .error e → P_X6_change κ (ad 0) (oN k) a b c = some (.error (exK e), κ1) → cl = some (thk k e, κ1))
    (hmd : ∀ κ1, md κ1 = (bd (P_X7_begins κ1 (ad 20)) fun κ18 => bd2 (f κ18) fun y20 κ21 => bd2 (P_X7_ends κ21 (ad 20) y20) fun y κ => some (y, κ)))
    (hf : ∀ v K pr tr pa su κ1, PT ad κ1 pr tr pa su → GX v K → (∀ j, iS ad κ1 21 j = v j) → ∃ r κ', f κ1 = some (r, κ') ∧ MO ad κ1 κ' k v (oK k v a b c) r) : LSt ad (K + 1) cl md := by
  obtain ⟨⟨v, ch, ps, hs, sv, h1, h2, h3⟩, -⟩ := id hI
  obtain ⟨pr0, tr0, pa0, su0, hp0, hch⟩ := h1.see h2 h3
  have hc := X6_change hi h1 h3 hK hk a b c
  cases hres : oK k v a b c with
  | error e =>
    rw [hres] at hc
    obtain ⟨κ1, c1, c2, c3⟩ := hc
    have hM1 := h2.cl c3 (ZF2.U hi (κ := κ1) (n := 40) (w := κ1 (ad 40) 0) (Or.inl rfl))
    have hM1' : MH ad κ1 v ch ps hs sv := h2.cl c3 (fun _ _ _ => rfl)
    obtain ⟨pr, tr, pa, su, hp, -⟩ := c2.see hM1' h3
    obtain ⟨y, κ2, d1, d2, d3⟩ := X7_wrap (k := k) (res := .error e) hi hp.1 hch hM1' f (fun κ3 hP hv => by rw [← hres]; exact hf v K pr tr pa su κ3 hP h3.1 hv)
    obtain ⟨d4, d5⟩ := d3
    refine ⟨thk k e, κ1, y, κ2, her e v κ1 hres c1, by rw [hmd]; exact d1, d4, fun q => absurd q (thk_ne k e), ?_⟩
    exact INV_step hI c3 (fun _ _ _ => rfl) d2.e c2 d5 (h3.up (by omega))
  | ok p =>
    obtain ⟨x, v'⟩ := p
    rw [hres] at hc
    obtain ⟨κ1, c1, c2, c3⟩ := hc
    have z1 : ZF2 ad κ1 (kU κ1 (ad 40) 0 (.long x.toInt64)) := ZF2.U hi (Or.inl rfl)
    have hM1 : MH ad (kU κ1 (ad 40) 0 (.long x.toInt64)) v ch ps hs sv := h2.cl c3 z1
    have hG' := h3.next hch (IK h3.1 hK hres).1
    obtain ⟨pr, tr, pa, su, hc2, -⟩ := c2.z2 hG' z1
    obtain ⟨y, κ2, d1, d2, d3⟩ := X7_wrap (k := k) (res := .ok (x, v')) hi hc2.1 hch hM1 f (fun κ3 hP hv => by rw [← hres]; exact hf v K pr tr pa su κ3 hP h3.1 hv)
    obtain ⟨d4, d5, d6⟩ := d3
    refine ⟨0, _, y, κ2, hok x κ1 c1, by rw [hmd]; exact d1, d5, fun _ => ?_, INV_step hI c3 z1 d2.e c2 d6 hG'⟩
    rw [kL_m d2.e, kL_U hi, d4]
theorem l_buyCloth (hi : ∀ a b, ad a = ad b → a = b) (hI : INV ad κ K) (hK : K < 2 ^ 30) (a b : Int32) : LSt ad (K + 1) (P_L_buyCloth κ (ad 0) a b (ad 40)) (fun κ1 => P_X7_buyCloth κ1 (ad 20) a b) := by
  refine LS_change (k := 0) (f := fun κ2 => P_X7_buys κ2 (ad 20) a b) hi hI hK (by omega) a b 0 (fun x κ1 h => ?_) (fun e v κ1 he h => ?_) (fun κ1 => ?_) (fun v K pr tr pa su κ1 hP hX hv => M0 hi hP hv a b)
  · have h' : P_X6_change κ (ad 0) 0 a b 0 = some (.ok x, κ1) := h
    unfold P_L_buyCloth P_X6_buyCloth
    rw [h', bdx2_o, bdx2_o]
    rfl
  · have h' : P_X6_change κ (ad 0) 0 a b 0 = some (.error (exK e), κ1) := h
    unfold P_L_buyCloth P_X6_buyCloth
    rw [h', bdx2_e, bdx2_e]
    rcases er0 he with he' | he' | he'
    · subst he'
      rw [ex2, if_pos rfl]; rfl
    · subst he'
      rw [ex3, if_neg (by decide), if_pos rfl]; rfl
    · subst he'
      rw [ex5, if_neg (by decide), if_neg (by decide), if_pos rfl]; rfl
  · rfl
theorem l_addCustomer (hi : ∀ a b, ad a = ad b → a = b) (hI : INV ad κ K) (hK : K < 2 ^ 30) (a b : Int32) : LSt ad (K + 1) (P_L_addCustomer κ (ad 0) a b (ad 40)) (fun κ1 => P_X7_addCustomer κ1 (ad 20) a b) := by
  refine LS_change (k := 1) (f := fun κ2 => P_X7_adds κ2 (ad 20) a b) hi hI hK (by omega) a b 0 (fun x κ1 h => ?_) (fun e v κ1 he h => ?_) (fun κ1 => ?_) (fun v K pr tr pa su κ1 hP hX hv => M1 hi hP hv hX.1 a b)
  · have h' : P_X6_change κ (ad 0) 1 a b 0 = some (.ok x, κ1) := h
    unfold P_L_addCustomer P_X6_addCustomer
    rw [h', bdx2_o, bdx2_o]
    rfl
  · have h' : P_X6_change κ (ad 0) 1 a b 0 = some (.error (exK e), κ1) := h
    unfold P_L_addCustomer P_X6_addCustomer
    rw [h', bdx2_e, bdx2_e]
    rcases er1 he with he' | he'
    · subst he'
      rw [ex3, if_pos rfl]; rfl
    · subst he'
      rw [ex4, if_neg (by decide), if_pos rfl]; rfl
  · rfl
theorem l_fit (hi : ∀ a b, ad a = ad b → a = b) (hI : INV ad κ K) (hK : K < 2 ^ 30) (a b c : Int32) : LSt ad (K + 1) (P_L_fit κ (ad 0) a b c (ad 40)) (fun κ1 => P_X7_fit κ1 (ad 20) a b c) := by
  refine LS_change (k := 2) (f := fun κ2 => P_X7_fits κ2 (ad 20) a b c) hi hI hK (by omega) a b c (fun x κ1 h => ?_) (fun e v κ1 he h => ?_) (fun κ1 => ?_) (fun v K pr tr pa su κ1 hP hX hv => M2 hi hP hv hX.1 a b c)
  · have h' : P_X6_change κ (ad 0) 2 a b c = some (.ok x, κ1) := h
    unfold P_L_fit P_X6_fit
    rw [h', bdx2_o, bdx2_o]
    rfl
  · have h' : P_X6_change κ (ad 0) 2 a b c = some (.error (exK e), κ1) := h
    unfold P_L_fit P_X6_fit
    rw [h', bdx2_e, bdx2_e]
    rcases er2 he with he' | he'
    · subst he'
      rw [ex2, if_pos rfl]; rfl
    · subst he'
      rw [ex3, if_neg (by decide), if_pos rfl]; rfl
  · rfl
theorem l_orderSuit (hi : ∀ a b, ad a = ad b → a = b) (hI : INV ad κ K) (hK : K < 2 ^ 30) (a b : Int32) : LSt ad (K + 1) (P_L_orderSuit κ (ad 0) a b (ad 40)) (fun κ1 => P_X7_orderSuit κ1 (ad 20) a b) := by
  refine LS_change (k := 3) (f := fun κ2 => P_X7_orders κ2 (ad 20) a b) hi hI hK (by omega) a b 0 (fun x κ1 h => ?_) (fun e v κ1 he h => ?_) (fun κ1 => ?_) (fun v K pr tr pa su κ1 hP hX hv => M3 hi hP hv hX.1 a b)
  · have h' : P_X6_change κ (ad 0) 3 a b 0 = some (.ok x, κ1) := h
    unfold P_L_orderSuit P_X6_orderSuit
    rw [h', bdx2_o, bdx2_o]
    rfl
  · have h' : P_X6_change κ (ad 0) 3 a b 0 = some (.error (exK e), κ1) := h
    unfold P_L_orderSuit P_X6_orderSuit
    rw [h', bdx2_e, bdx2_e]
    rcases er3 he with he' | he'
    · subst he'
      rw [ex2, if_pos rfl]; rfl
    · subst he'
      rw [ex4, if_neg (by decide), if_pos rfl]; rfl
  · rfl
theorem l_cut (hi : ∀ a b, ad a = ad b → a = b) (hI : INV ad κ K) (hK : K < 2 ^ 30) (a b : Int32) : LSt ad (K + 1) (P_L_cut κ (ad 0) a b (ad 40)) (fun κ1 => P_X7_cut κ1 (ad 20) a b) := by
  refine LS_change (k := 4) (f := fun κ2 => (bd (P_X7_find κ2 (ad 20) a) fun y => P_X7_cuts κ2 (ad 20) y b)) hi hI hK (by omega) a b 0 (fun x κ1 h => ?_) (fun e v κ1 he h => ?_) (fun κ1 => ?_) (fun v K pr tr pa su κ1 hP hX hv => M4 hi hP hv hX.1 a b)
  · have h' : P_X6_change κ (ad 0) 4 a b 0 = some (.ok x, κ1) := h
    unfold P_L_cut P_X6_cut
    rw [h', bdx2_o, bdx2_o]
    rfl
  · have h' : P_X6_change κ (ad 0) 4 a b 0 = some (.error (exK e), κ1) := h
    unfold P_L_cut P_X6_cut
    rw [h', bdx2_e, bdx2_e]
    rcases er4 he with he' | he' | he' | he'
    · subst he'
      rw [ex1, if_pos rfl]; rfl
    · subst he'
      rw [ex2, if_neg (by decide), if_pos rfl]; rfl
    · subst he'
      rw [ex4, if_neg (by decide), if_neg (by decide), if_pos rfl]; rfl
    · subst he'
      rw [ex5, if_neg (by decide), if_neg (by decide), if_neg (by decide), if_pos rfl]; rfl
  · unfold P_X7_cut
    cases P_X7_begins κ1 (ad 20) with
    | none => rfl
    | some κ3 =>
      rw [bd_s, bd_s]
      cases P_X7_find κ3 (ad 20) a with
      | none => rfl
      | some y => rfl
theorem l_sew (hi : ∀ a b, ad a = ad b → a = b) (hI : INV ad κ K) (hK : K < 2 ^ 30) (a b : Int32) : LSt ad (K + 1) (P_L_sew κ (ad 0) a b (ad 40)) (fun κ1 => P_X7_sew κ1 (ad 20) a b) := by
  refine LS_change (k := 5) (f := fun κ2 => (bd (P_X7_find κ2 (ad 20) a) fun y => P_X7_sews κ2 (ad 20) y b)) hi hI hK (by omega) a b 0 (fun x κ1 h => ?_) (fun e v κ1 he h => ?_) (fun κ1 => ?_) (fun v K pr tr pa su κ1 hP hX hv => M5 hi hP hv hX a b)
  · have h' : P_X6_change κ (ad 0) 5 a b 0 = some (.ok x, κ1) := h
    unfold P_L_sew P_X6_sew
    rw [h', bdx2_o, bdx2_o]
    rfl
  · have h' : P_X6_change κ (ad 0) 5 a b 0 = some (.error (exK e), κ1) := h
    unfold P_L_sew P_X6_sew
    rw [h', bdx2_e, bdx2_e]
    rcases er5 he with he' | he' | he' | he'
    · subst he'
      rw [ex1, if_pos rfl]; rfl
    · subst he'
      rw [ex2, if_neg (by decide), if_pos rfl]; rfl
    · subst he'
      rw [ex4, if_neg (by decide), if_neg (by decide), if_pos rfl]; rfl
    · subst he'
      rw [ex5, if_neg (by decide), if_neg (by decide), if_neg (by decide), if_pos rfl]; rfl
  · unfold P_X7_sew
    cases P_X7_begins κ1 (ad 20) with
    | none => rfl
    | some κ3 =>
      rw [bd_s, bd_s]
      cases P_X7_find κ3 (ad 20) a with
      | none => rfl
      | some y => rfl
theorem l_unpick (hi : ∀ a b, ad a = ad b → a = b) (hI : INV ad κ K) (hK : K < 2 ^ 30) (a b : Int32) : LSt ad (K + 1) (P_L_unpick κ (ad 0) a b (ad 40)) (fun κ1 => P_X7_unpick κ1 (ad 20) a b) := by
  refine LS_change (k := 6) (f := fun κ2 => (bd (P_X7_find κ2 (ad 20) a) fun y => P_X7_unpicks κ2 (ad 20) y b)) hi hI hK (by omega) a b 0 (fun x κ1 h => ?_) (fun e v κ1 he h => ?_) (fun κ1 => ?_) (fun v K pr tr pa su κ1 hP hX hv => M6 hi hP hv hX.1 a b)
  · have h' : P_X6_change κ (ad 0) 6 a b 0 = some (.ok x, κ1) := h
    unfold P_L_unpick P_X6_unpick
    rw [h', bdx2_o, bdx2_o]
    rfl
  · have h' : P_X6_change κ (ad 0) 6 a b 0 = some (.error (exK e), κ1) := h
    unfold P_L_unpick P_X6_unpick
    rw [h', bdx2_e, bdx2_e]
    rcases er6 he with he' | he' | he' | he'
    · subst he'
      rw [ex1, if_pos rfl]; rfl
    · subst he'
      rw [ex2, if_neg (by decide), if_pos rfl]; rfl
    · subst he'
      rw [ex4, if_neg (by decide), if_neg (by decide), if_pos rfl]; rfl
    · subst he'
      rw [ex5, if_neg (by decide), if_neg (by decide), if_neg (by decide), if_pos rfl]; rfl
  · unfold P_X7_unpick
    cases P_X7_begins κ1 (ad 20) with
    | none => rfl
    | some κ3 =>
      rw [bd_s, bd_s]
      cases P_X7_find κ3 (ad 20) a with
      | none => rfl
      | some y => rfl
theorem l_demand (hi : ∀ a b, ad a = ad b → a = b) (hI : INV ad κ K) (hK : K < 2 ^ 30) (a b c : Int32) : LSt ad (K + 1) (P_L_demand κ (ad 0) a b c (ad 40)) (fun κ1 => P_X7_demand κ1 (ad 20) a b c) := by
  refine LS_change (k := 7) (f := fun κ2 => (bd (P_X7_find κ2 (ad 20) a) fun y => P_X7_demands κ2 (ad 20) y b c)) hi hI hK (by omega) a b c (fun x κ1 h => ?_) (fun e v κ1 he h => ?_) (fun κ1 => ?_) (fun v K pr tr pa su κ1 hP hX hv => M7 hi hP hv hX.1 a b c)
  · have h' : P_X6_change κ (ad 0) 7 a b c = some (.ok x, κ1) := h
    unfold P_L_demand P_X6_demand
    rw [h', bdx2_o, bdx2_o]
    rfl
  · have h' : P_X6_change κ (ad 0) 7 a b c = some (.error (exK e), κ1) := h
    unfold P_L_demand P_X6_demand
    rw [h', bdx2_e, bdx2_e]
    rcases er7 he with he' | he' | he' | he' | he'
    · subst he'
      rw [ex1, if_pos rfl]; rfl
    · subst he'
      rw [ex2, if_neg (by decide), if_pos rfl]; rfl
    · subst he'
      rw [ex3, if_neg (by decide), if_neg (by decide), if_pos rfl]; rfl
    · subst he'
      rw [ex4, if_neg (by decide), if_neg (by decide), if_neg (by decide), if_pos rfl]; rfl
    · subst he'
      rw [ex5, if_neg (by decide), if_neg (by decide), if_neg (by decide), if_neg (by decide), if_pos rfl]; rfl
  · unfold P_X7_demand
    cases P_X7_begins κ1 (ad 20) with
    | none => rfl
    | some κ3 =>
      rw [bd_s, bd_s]
      cases P_X7_find κ3 (ad 20) a with
      | none => rfl
      | some y => rfl
theorem l_deliver (hi : ∀ a b, ad a = ad b → a = b) (hI : INV ad κ K) (hK : K < 2 ^ 30) (a : Int32) : LSt ad (K + 1) (P_L_deliver κ (ad 0) a (ad 40)) (fun κ1 => P_X7_deliver κ1 (ad 20) a) := by
  refine LS_change (k := 8) (f := fun κ2 => (bd (P_X7_find κ2 (ad 20) a) fun y => P_X7_delivers κ2 (ad 20) y)) hi hI hK (by omega) a 0 0 (fun x κ1 h => ?_) (fun e v κ1 he h => ?_) (fun κ1 => ?_) (fun v K pr tr pa su κ1 hP hX hv => M8 hi hP hv hX.1 a)
  · have h' : P_X6_change κ (ad 0) 8 a 0 0 = some (.ok x, κ1) := h
    unfold P_L_deliver P_X6_deliver
    rw [h', bdx2_o, bdx2_o]
    rfl
  · have h' : P_X6_change κ (ad 0) 8 a 0 0 = some (.error (exK e), κ1) := h
    unfold P_L_deliver P_X6_deliver
    rw [h', bdx2_e, bdx2_e]
    rcases er8 he with he' | he'
    · subst he'
      rw [ex1, if_pos rfl]; rfl
    · subst he'
      rw [ex4, if_neg (by decide), if_pos rfl]; rfl
  · unfold P_X7_deliver
    cases P_X7_begins κ1 (ad 20) with
    | none => rfl
    | some κ3 =>
      rw [bd_s, bd_s]
      cases P_X7_find κ3 (ad 20) a with
      | none => rfl
      | some y => rfl
theorem l_scrap (hi : ∀ a b, ad a = ad b → a = b) (hI : INV ad κ K) (hK : K < 2 ^ 30) (a : Int32) : LSt ad (K + 1) (P_L_scrap κ (ad 0) a (ad 40)) (fun κ1 => P_X7_scrap κ1 (ad 20) a) := by
  refine LS_change (k := 9) (f := fun κ2 => (bd (P_X7_find κ2 (ad 20) a) fun y => P_X7_scraps κ2 (ad 20) y)) hi hI hK (by omega) a 0 0 (fun x κ1 h => ?_) (fun e v κ1 he h => ?_) (fun κ1 => ?_) (fun v K pr tr pa su κ1 hP hX hv => M9 hi hP hv hX.1 a)
  · have h' : P_X6_change κ (ad 0) 9 a 0 0 = some (.ok x, κ1) := h
    unfold P_L_scrap P_X6_scrap
    rw [h', bdx2_o, bdx2_o]
    rfl
  · have h' : P_X6_change κ (ad 0) 9 a 0 0 = some (.error (exK e), κ1) := h
    unfold P_L_scrap P_X6_scrap
    rw [h', bdx2_e, bdx2_e]
    have he' := er9 he
    subst he'
    rw [ex1, if_pos rfl]; rfl
  · unfold P_X7_scrap
    cases P_X7_begins κ1 (ad 20) with
    | none => rfl
    | some κ3 =>
      rw [bd_s, bd_s]
      cases P_X7_find κ3 (ad 20) a with
      | none => rfl
      | some y => rfl
theorem l_undo (hi : ∀ a b, ad a = ad b → a = b) (hI : INV ad κ K) : LSt ad K (P_L_undo κ (ad 0) (ad 40)) (fun κ1 => P_X7_undo κ1 (ad 20)) := by
  obtain ⟨⟨v, ch, ps, hs, sv, h1, h2, h3⟩, -⟩ := id hI
  obtain ⟨pr, tr, pa, su, hp, hch⟩ := h1.see h2 h3
  have hc := c_undo hi h1 h3
  have refl : FCl ad κ κ := fun _ _ _ => rfl
  by_cases z : ch = 0
  · obtain ⟨κ2, a1, a2, a3, a4⟩ := (m_undo hi hp.1 hch h2).1 z
    refine ⟨1, κ, 0, κ2, ?_, a1, a2, fun q => absurd q (by decide), INV_step hI refl (fun _ _ _ => rfl) a3 h1 a4 h3⟩
    unfold P_L_undo
    rw [hc.1 z, bdx2_e, if_pos rfl]
  · -- the model's row comes first
    have z1 : ZF2 ad κ (kU κ (ad 40) 0 (.long (oN (ch - 1)).toInt64)) := ZF2.U hi (Or.inl rfl)
    obtain ⟨κc, c1, c2, c3⟩ := hc.2 z (fun j => if j < 457 then ps (ch - 1) j else v j) (fun j hj => if_pos hj)
    have z2 : ZF2 ad κc (kU κc (ad 40) 0 (.long (oN (ch - 1)).toInt64)) := ZF2.U hi (Or.inl rfl)
    have hM2 : MH ad (kU κc (ad 40) 0 (.long (oN (ch - 1)).toInt64)) v ch ps hs sv := h2.cl c3 z2
    have hGw : ∀ w, (∀ j, j < 457 → w j = ps (ch - 1) j) → GH w (ch - 1) ps hs sv K := fun w hw => ⟨GX_457 (h3.2.1 (ch - 1) (by omega)) hw, fun i hic => h3.2.1 i (by omega), h3.2.2⟩
    obtain ⟨pr2, tr2, pa2, su2, hc2, -⟩ := c2.z2 (hGw _ (fun j hj => if_pos hj)) z2
    obtain ⟨κ2, w, a1, a2, a3, a4, a5⟩ := (m_undo hi hc2.1 hch hM2).2 z
    obtain ⟨κd, d1, d2, d3⟩ := hc.2 z w a4
    have ed : κd = κc := by rw [c1] at d1; injection d1 with d1; injection d1 with _ d1; exact d1.symm
    rw [ed] at d2
    refine ⟨0, _, _, κ2, ?_, a1, a2, fun _ => ?_, INV_step hI c3 z2 a3 d2 a5 (hGw w a4)⟩
    · unfold P_L_undo
      rw [c1, bdx2_o]; rfl
    · rw [kL_m a3, kL_U hi]
theorem l_restore (hi : ∀ a b, ad a = ad b → a = b) (hI : INV ad κ K) : LSt ad K (P_L_restore κ (ad 0) (ad 40)) (fun κ1 => P_X7_restore κ1 (ad 20)) := by
  obtain ⟨⟨v, ch, ps, hs, sv, h1, h2, h3⟩, -⟩ := id hI
  obtain ⟨pr, tr, pa, su, hp, hch⟩ := h1.see h2 h3
  have hc := c_restore hi h1 h3
  have refl : FCl ad κ κ := fun _ _ _ => rfl
  by_cases z : hs = 0
  · obtain ⟨κ2, a1, a2, a3, a4⟩ := (m_restore hi hp.1 h2).1 z
    refine ⟨1, κ, 0, κ2, ?_, a1, a2, fun q => absurd q (by decide), INV_step hI refl (fun _ _ _ => rfl) a3 h1 a4 h3⟩
    unfold P_L_restore
    rw [hc.1 z, bdx2_e, if_pos rfl]
  · obtain ⟨κc, c1, c2, c3⟩ := hc.2 z sv (fun j hj => rfl)
    have z2 : ZF2 ad κc (kU κc (ad 40) 0 (.long (sv 1).toInt64)) := ZF2.U hi (Or.inl rfl)
    have hM2 : MH ad (kU κc (ad 40) 0 (.long (sv 1).toInt64)) v ch ps hs sv := h2.cl c3 z2
    have hGw : ∀ w, (∀ j, j < 457 → w j = sv j) → GH w 0 ps hs sv K := fun w hw => ⟨GX_457 (h3.2.2 z) hw, fun i hic => by omega, h3.2.2⟩
    obtain ⟨pr2, tr2, pa2, su2, hc2, -⟩ := c2.z2 (hGw _ (fun j hj => rfl)) z2
    obtain ⟨κ2, w, a1, a2, a3, a4, a5⟩ := (m_restore hi hc2.1 hM2).2 z
    obtain ⟨κd, d1, d2, d3⟩ := hc.2 z w a4
    have ed : κd = κc := by rw [c1] at d1; injection d1 with d1; injection d1 with _ d1; exact d1.symm
    rw [ed] at d2
    refine ⟨0, _, _, κ2, ?_, a1, a2, fun _ => ?_, INV_step hI c3 z2 a3 d2 a5 (hGw w a4)⟩
    · unfold P_L_restore
      rw [c1, bdx2_o]; rfl
    · rw [kL_m a3, kL_U hi]
theorem l_save (hi : ∀ a b, ad a = ad b → a = b) (hI : INV ad κ K) : ∃ x κ1 κ2, P_X6_save κ (ad 0) = some (x, κ1) ∧ P_X7_save κ1 (ad 20) = some (x, κ2) ∧ INV ad κ2 K := by
  obtain ⟨⟨v, ch, ps, hs, sv, h1, h2, h3⟩, -⟩ := id hI
  obtain ⟨pr, tr, pa, su, hp, hch⟩ := h1.see h2 h3
  obtain ⟨κc, c1, c2, c3⟩ := c_save hi h1 h3 v (fun j hj => rfl)
  have hM2 : MH ad κc v ch ps hs sv := h2.cl c3 (fun _ _ _ => rfl)
  have hGw : ∀ w, (∀ j, j < 457 → w j = v j) → GH v ch ps 1 w K := fun w hw => ⟨h3.1, h3.2.1, fun _ => GX_457 h3.1 hw⟩
  obtain ⟨pr2, tr2, pa2, su2, hc2, -⟩ := id c2
  obtain ⟨κ2, w, a1, a3, a4, a5⟩ := m_save hi hc2.1 hM2
  obtain ⟨κd, d1, d2, d3⟩ := c_save hi h1 h3 w a4
  have ed : κd = κc := (Prod.mk.inj (Option.some.inj (c1.symm.trans d1))).2.symm
  rw [ed] at d2
  exact ⟨v 1, κc, κ2, c1, a1, INV_step hI c3 (fun _ _ _ => rfl) a3 d2 a5 (hGw w a4)⟩
end CHANGES
