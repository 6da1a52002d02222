/-! ===== layer 3: rounds: the class's waves and the model's levels ===== -/
noncomputable def Tk (E : Nat → Nat → Prop) (S : Nat → Bool) : Nat → Nat → Bool
  | 0 => S
  | k + 1 => fun l => Tk E S k l || fre E (Tk E S k) l
theorem Tk_s {E : Nat → Nat → Prop} {S : Nat → Bool} {k l : Nat} (h : Tk E S k l = true) : Tk E S (k + 1) l = true := by
  show (Tk E S k l || fre E (Tk E S k) l) = true
  rw [h, Bool.true_or]
theorem Tk_m {E : Nat → Nat → Prop} {S : Nat → Bool} {l : Nat} : ∀ (d k : Nat), Tk E S k l = true → Tk E S (k + d) l = true := by
  intro d
  induction d with
  | zero => intro k h; exact h
  | succ d ih => intro k h; exact Tk_s (ih k h)
theorem Tk_le {E : Nat → Nat → Prop} {S : Nat → Bool} {l k j : Nat} (hj : k ≤ j) (h : Tk E S k l = true) : Tk E S j l = true := by
  have := Tk_m (j - k) k h
  rw [show k + (j - k) = j by omega] at this
  exact this
theorem Tk_d {E : Nat → Nat → Prop} {S : Nat → Bool} {l f : Nat} (hS : S l = false) (hf : E l f) : ∀ k, Tk E S (k + 1) l = true → Tk E S k f = true := by
  intro k
  induction k with
  | zero =>
    intro h
    have h' : (S l || fre E S l) = true := h
    rw [hS, Bool.false_or] at h'
    cases hx : S f
    · exact absurd ⟨f, hf, hx⟩ (pb_t.mp h').2
    · exact hx
  | succ k ih =>
    intro h
    have h' : (Tk E S (k + 1) l || fre E (Tk E S (k + 1)) l) = true := h
    rw [Bool.or_eq_true] at h'
    rcases h' with h' | h'
    · exact Tk_s (ih h')
    · cases hx : Tk E S (k + 1) f
      · exact absurd ⟨f, hf, hx⟩ (pb_t.mp h').2
      · rfl
theorem cn_lt {p q : Nat → Bool} {x : Nat} (hp : p x = false) (hq : q x = true) : ∀ n, x < n → (∀ l, l < n → p l = true → q l = true) → cn p n < cn q n := by
  have mono : ∀ n, (∀ l, l < n → p l = true → q l = true) → cn p n ≤ cn q n := by
    intro n
    induction n with
    | zero => intro _; exact Nat.le_refl _
    | succ n ih =>
      intro h
      have := ih (fun l hl => h l (by omega))
      unfold cn
      by_cases g : p n = true
      · rw [if_pos g, if_pos (h n (by omega) g)]; omega
      · rw [if_neg g]; omega
  intro n
  induction n with
  | zero => intro h; omega
  | succ n ih =>
    intro hx h
    unfold cn
    by_cases e : x = n
    · subst e
      have := mono x (fun l hl => h l (by omega))
      rw [if_pos hq, hp, if_neg (by decide)]
      omega
    · have := ih (by omega) (fun l hl => h l (by omega))
      by_cases g : p n = true
      · rw [if_pos g, if_pos (h n (by omega) g)]; omega
      · rw [if_neg g]; omega
/-- without a cycle some sleeve is free while one isn't done -/
theorem free_ex {E : Nat → Nat → Prop} {n : Nat} (hE : ∀ l f, E l f → f < n) (hac : ∀ l, ¬ Relation.TransGen (fun f l => E l f) l l) (S : Nat → Bool) : ∀ (c l : Nat), l < n → S l = false → cn (fun f => pb (Relation.TransGen (fun f l => E l f) f l)) n ≤ c → ∃ x, x < n ∧ fre E S x = true := by
  intro c
  induction c with
  | zero =>
    intro l hl hS hc
    refine ⟨l, hl, pb_t.mpr ⟨hS, ?_⟩⟩
    rintro ⟨f, h1, h2⟩
    have := cn_pos (p := fun f => pb (Relation.TransGen (fun f l => E l f) f l)) (x := f) (pb_t.mpr (Relation.TransGen.single h1)) n (hE l f h1)
    omega
  | succ c ih =>
    intro l hl hS hc
    by_cases h : ∃ f, E l f ∧ S f = false
    · obtain ⟨f, h1, h2⟩ := h
      refine ih f (hE l f h1) h2 ?_
      have := cn_lt (p := fun g => pb (Relation.TransGen (fun f l => E l f) g f)) (q := fun g => pb (Relation.TransGen (fun f l => E l f) g l)) (x := f) (pb_f.mpr (hac f)) (pb_t.mpr (Relation.TransGen.single h1)) n (hE l f h1) (fun g _ hg => pb_t.mpr (Relation.TransGen.tail (pb_t.mp hg) h1))
      omega
    · exact ⟨l, hl, pb_t.mpr ⟨hS, h⟩⟩
theorem ord_all {E : Nat → Nat → Prop} {n : Nat} (hE : ∀ l f, E l f → f < n) (hac : ∀ l, ¬ Relation.TransGen (fun f l => E l f) l l) : ∀ (k : Nat) (S : Nat → Bool), cn (fun l => !S l) n = k → ∀ l, l < n → S l = false → l ∈ ord n E k S := by
  intro k
  induction k with
  | zero =>
    intro S hc l hl hS
    have := (cn_zero n).mp hc l hl
    simp [hS] at this
  | succ k ih =>
    intro S hc l hl hS
    unfold ord
    cases hx : nxF (fre E S) 0 n with
    | none =>
      obtain ⟨x, h1, h2⟩ := free_ex hE hac S _ l hl hS (Nat.le_refl _)
      have := (nxF_none n 0).mp hx x (by omega) (by omega)
      rw [h2] at this; cases this
    | some x =>
      obtain ⟨-, x1, x2, -⟩ := (nxF_some _ _ _).mp hx
      have hun := sb_un (fre_un x2) (by omega : x < n)
      simp only [List.mem_cons]
      by_cases e : l = x
      · exact Or.inl e
      · exact Or.inr (ih (sb S x) (by omega) l hl (by unfold sb; rw [if_neg e]; exact hS))
theorem sb_f {S : Nat → Bool} {x j : Nat} (h : sb S x j = false) : j ≠ x ∧ S j = false := by
  unfold sb at h
  by_cases e : j = x
  · rw [if_pos e] at h; cases h
  · rw [if_neg e] at h; exact ⟨e, h⟩
theorem sb_t {S : Nat → Bool} {x j : Nat} (h : sb S x j = true) : j = x ∨ S j = true := by
  unfold sb at h
  by_cases e : j = x
  · exact Or.inl e
  · rw [if_neg e] at h; exact Or.inr h
theorem ord_pre {E : Nat → Nat → Prop} {n : Nat} : ∀ (k : Nat) (S : Nat → Bool) (L : List Nat), L = ord n E k S → ∀ t (ht : t < L.length), S L[t] = false ∧ (∀ f, E L[t] f → S f = true ∨ ∃ u, ∃ hu : u < t, L[u]'(by omega) = f) ∧ ∀ u (hu : u < t), L[u]'(by omega) ≠ L[t] := by
  intro k
  induction k with
  | zero => intro S L h t ht; rw [h] at ht; cases ht
  | succ k ih =>
    intro S L h t ht
    unfold ord at h
    cases hx : nxF (fre E S) 0 n with
    | none => rw [hx] at h; rw [h] at ht; cases ht
    | some x =>
      rw [hx] at h
      obtain ⟨-, x1, x2, -⟩ := (nxF_some _ _ _).mp hx
      simp only [] at h
      subst h
      cases t with
      | zero =>
        refine ⟨fre_un x2, fun f hf => ?_, fun u hu => by omega⟩
        left
        cases hy : S f
        · exact absurd ⟨f, hf, hy⟩ (pb_t.mp x2).2
        · rfl
      | succ t =>
        have ht' : t < (ord n E k (sb S x)).length := by simpa using ht
        obtain ⟨a, b, c⟩ := ih (sb S x) _ rfl t ht'
        have hne := (sb_f a).1
        refine ⟨?_, fun f hf => ?_, fun u hu => ?_⟩
        · exact (sb_f a).2
        · rcases b f hf with g | ⟨u, hu, g⟩
          · rcases sb_t g with e | e
            · exact Or.inr ⟨0, by omega, e.symm⟩
            · exact Or.inl e
          · exact Or.inr ⟨u + 1, by omega, g⟩
        · cases u with
          | zero => exact fun e => hne e.symm
          | succ u => exact c u (by omega)
theorem X4_rounds {κ : jKt} {a : Nat} {v : Nat → Int32} {s m : Nat} (h : SV κ a v s) (hG : GR v) (hs : s < nn v 1) (hm : m ≤ sl v s) (h1 : ∀ l, l < sl v s → Tk (dmB v s) (sew0 v s) m l = true) (h2 : ∀ j, j < m → ∃ l, l < sl v s ∧ Tk (dmB v s) (sew0 v s) j l = false) : P_X4_roundsLeft κ a = some (oN m) := by
  have h16 := (hG.sl16 hs).1
  have hE := hG.E hs
  obtain ⟨S0, s1, s2⟩ := h.set hG hs
  have L : ∀ (q i f : Nat) (S : Int32), i + q = m → q < f → (∀ j, j < 32 → bt S j = (decide (j < sl v s) && Tk (dmB v s) (sew0 v s) i j)) → P_X4_roundsLeft_9 κ a f S (oN i) (oN i) = some (oN m) := by
    intro q
    induction q with
    | zero =>
      intro i f S g1 g2 g3
      obtain ⟨f, rfl⟩ : ∃ g, f = g + 1 := ⟨f - 1, by omega⟩
      have hall : S = (1 <<< (oN (sl v s) &&& 31)) - 1 := by
        apply b_ext
        intro j hj
        rw [g3 j hj, b_all _ (by omega) j hj]
        by_cases e : j < sl v s
        · rw [decide_eq_true e, show i = m by omega, h1 j e]; rfl
        · rw [decide_eq_false e]; rfl
      rw [P_X4_roundsLeft_9, h.2.2.2.1]
      by_cases e : sl v s ≤ i
      · rw [if_pos ((oN_le (by omega) (by omega)).mpr (by omega)), show i = m by omega]
      · rw [if_neg (fun h => by have := (oN_le (by omega) (by omega)).mp h; omega)]
        unfold P_X4_allSleeves
        rw [h.2.2.2.1, bd_s, if_pos hall, show i = m by omega]
    | succ q ih =>
      intro i f S g1 g2 g3
      obtain ⟨f, rfl⟩ : ∃ g, f = g + 1 := ⟨f - 1, by omega⟩
      have e1 : (oN i + 1 : Int32) = oN (i + 1) := oN_add i 1
      obtain ⟨l, l1, l2⟩ := h2 i (by omega)
      have hnall : ¬ S = (1 <<< (oN (sl v s) &&& 31)) - 1 := by
        intro e
        have := g3 l (by omega)
        rw [e, b_all _ (by omega) l (by omega), decide_eq_true l1, l2] at this
        cases this
      obtain ⟨R, r1, r2⟩ := X4_freeSleeves (κ := κ) (a := a) h.2.2.2.1 h16 S
      rw [P_X4_roundsLeft_9, h.2.2.2.1, if_neg (fun h => by have := (oN_le (by omega) (by omega)).mp h; omega)]
      unfold P_X4_allSleeves
      rw [h.2.2.2.1, bd_s, if_neg hnall, r1, bd_s, e1]
      refine ih (i + 1) f (S ||| R) (by omega) (by omega) (fun j hj => ?_)
      rw [b_or, g3 j hj]
      by_cases e : j < sl v s
      · rw [decide_eq_true e, Bool.true_and, Bool.true_and]
        show _ = (Tk (dmB v s) (sew0 v s) i j || fre (dmB v s) (Tk (dmB v s) (sew0 v s) i) j)
        have hS : ∀ f, f < sl v s → bt S f = Tk (dmB v s) (sew0 v s) i f := fun f hf => by rw [g3 f (by omega), decide_eq_true hf, Bool.true_and]
        have : bt R j = fre (dmB v s) (Tk (dmB v s) (sew0 v s) i) j := by
          apply bool_c
          rw [r2 j hj]
          constructor
          · rintro ⟨-, a2, a3⟩
            refine pb_t.mpr ⟨by rw [← hS j e]; exact a2, ?_⟩
            rintro ⟨f, b1, b2⟩
            have := hE j f b1
            exact a3 ⟨f, by omega, (h.E j f e (by omega)).mpr b1, by rw [hS f this]; exact b2⟩
          · intro g
            obtain ⟨a1, a2⟩ := pb_t.mp g
            refine ⟨e, by rw [hS j e]; exact a1, ?_⟩
            rintro ⟨f, b1, b2, b3⟩
            have b4 := (h.E j f e b1).mp b2
            have := hE j f b4
            exact a2 ⟨f, b4, by rw [← hS f this]; exact b3⟩
        rw [this]
      · rw [decide_eq_false e, Bool.false_and, Bool.false_and, Bool.false_or]
        cases hR : bt R j
        · rfl
        · exact absurd ((r2 j hj).mp hR).1 e
  unfold P_X4_roundsLeft
  rw [s1, bd_s]
  exact L m 0 4000 S0 (by omega) (by omega) s2
section ROUNDS
variable {ad : Nat → Nat} {κ : jKt} {pr tr : Nat} {pa : Nat → Nat} {su : Nat → Nat → Nat}
/-- the model: one sleeve's level -/
theorem X7_level (hi : ∀ a b, ad a = ad b → a = b) (hP : PT ad κ pr tr pa su) {v : Nat → Int32} {s l : Nat} {dv : Nat → Nat} (hv : mv κ (ad 20) = v) (hG : GR v) (hs : s < nn v 1) (hl : l < 16) (hd : ∀ f, f < 16 → iS ad κ 26 f = oN (dv f)) (hd16 : ∀ f, dv f ≤ 16) (most k L : Nat) (hmost : most ≤ 20) (hk : k < 40) (K : jKt → Int32 → Int32 → Option (Int32 × jKt)) :
    ∃ m, 1 ≤ m ∧ (∀ f, dmB v s l f → dv f + 1 ≤ m) ∧ (m = 1 ∨ ∃ f, dmB v s l f ∧ m = dv f + 1) ∧ P_X7_rounds_89 (ad 20) (oN s) (oN L) (oN most) (oN k) (oN l) K 4000 κ 1 0 = K (kU κ (ad 26) l (.int (oN m))) (oN (max most m)) (oN (k + 1)) := by
  have h6 : s < 6 := by have := hG.2.1.2.2; omega
  have h16 := (hG.sl16 hs).1
  obtain ⟨-, -, -, gd, -, gp⟩ := hG.2.2.2 s hs
  have hof : P_X7_of κ (oN s) 3 = some (oN (97 + 60 * s + 3)) := X7_of κ s 3
  have hN : kI κ (kR κ (ad 20) 5) (97 + 60 * s + 3) = oN (nn v (100 + 60 * s)) := by
    rw [← gd.1, ← hv]; unfold mv; rw [show 97 + 60 * s + 3 = 100 + 60 * s by omega]
  have h12 := gd.2.2
  have e2 : (oN k + 1 : Int32) = oN (k + 1) := oN_add k 1
  have W : ∀ (q d f m0 : Nat), d + q = nn v (100 + 60 * s) → q < f → 1 ≤ m0 → m0 ≤ 17 → (m0 = 1 ∨ ∃ f, dmB v s l f ∧ m0 = dv f + 1) →
      ∃ m, m0 ≤ m ∧ (∀ e, d ≤ e → e < nn v (100 + 60 * s) → nn v (134 + 60 * s + 2 * e) = l → dv (nn v (133 + 60 * s + 2 * e)) + 1 ≤ m) ∧ (m = 1 ∨ ∃ f, dmB v s l f ∧ m = dv f + 1) ∧ P_X7_rounds_89 (ad 20) (oN s) (oN L) (oN most) (oN k) (oN l) K f κ (oN m0) (oN d) = K (kU κ (ad 26) l (.int (oN m))) (oN (max most m)) (oN (k + 1)) := by
    intro q
    induction q with
    | zero =>
      intro d f m0 g1 g2 g3 g4 g5
      obtain ⟨f, rfl⟩ : ∃ g, f = g + 1 := ⟨f - 1, by omega⟩
      refine ⟨m0, Nat.le_refl _, fun e e1 e2 => by omega, g5, ?_⟩
      rw [P_X7_rounds_89, hof, bd_s, ck_t ((oN_jin (by omega)).mpr (by omega)), oN_ix (by omega), hN, if_pos ((oN_le (by omega) (by omega)).mpr (by omega)), ck_t ((oN_jin (by omega)).mpr (by omega)), oN_ix (by omega), bnd_e, hP.dn, e2]
      by_cases g : m0 ≤ most
      · rw [if_pos ((oN_le (by omega) (by omega)).mpr (by omega)), Nat.max_eq_left g]
      · rw [if_neg (fun h => by have := (oN_le (by omega) (by omega)).mp h; omega), Nat.max_eq_right (by omega)]
    | succ q ih =>
      intro d f m0 g1 g2 g3 g4 g5
      obtain ⟨f, rfl⟩ : ∃ g, f = g + 1 := ⟨f - 1, by omega⟩
      obtain ⟨p1, p2, p3, p4, p5⟩ := gp d (by omega)
      have hF := p1.2.2
      have hL := p2.2.2
      have e1 : (oN d + 1 : Int32) = oN (d + 1) := oN_add d 1
      have hsec : P_X7_second κ (ad 20) (oN s) (oN d) = some (oN (nn v (134 + 60 * s + 2 * d))) := by rw [X7_second h6 (by omega), hv, p2.1]
      have hfir : P_X7_first κ (ad 20) (oN s) (oN d) = some (oN (nn v (133 + 60 * s + 2 * d))) := by rw [X7_first h6 (by omega), hv, p1.1]
      rw [P_X7_rounds_89, hof, bd_s, ck_t ((oN_jin (by omega)).mpr (by omega)), oN_ix (by omega), hN, if_neg (fun h => by have := (oN_le (by omega) (by omega)).mp h; omega), hsec, bd_s, e1]
      by_cases hq : nn v (134 + 60 * s + 2 * d) = l
      · have hdv : kI κ (kR κ (ad 20) 10) (nn v (133 + 60 * s + 2 * d)) = oN (dv (nn v (133 + 60 * s + 2 * d))) := by
          rw [hP.dn]; exact hd _ (by omega)
        have hb := hd16 (nn v (133 + 60 * s + 2 * d))
        rw [if_pos (by rw [hq]), hfir, bd_s, ck_t ((oN_jin (by omega)).mpr (by omega)), oN_ix (by omega), hdv]
        by_cases hlt : dv (nn v (133 + 60 * s + 2 * d)) < m0
        · rw [if_pos ((oN_lt (by omega) (by omega)).mpr hlt)]
          obtain ⟨m, m1, m2, m3, m4⟩ := ih (d + 1) f m0 (by omega) (by omega) g3 g4 g5
          refine ⟨m, m1, fun e e1 e2 e3 => ?_, m3, m4⟩
          by_cases g : e = d
          · rw [g]; omega
          · exact m2 e (by omega) e2 e3
        · have e3 : (oN (dv (nn v (133 + 60 * s + 2 * d))) + 1 : Int32) = oN (dv (nn v (133 + 60 * s + 2 * d)) + 1) := oN_add _ 1
          rw [if_neg (fun h => by have := (oN_lt (by omega) (by omega)).mp h; omega), bd_s, ck_t ((oN_jin (by omega)).mpr (by omega)), bnd_e, oN_ix (by omega), hdv, e3]
          obtain ⟨m, m1, m2, m3, m4⟩ := ih (d + 1) f (dv (nn v (133 + 60 * s + 2 * d)) + 1) (by omega) (by omega) (by omega) (by omega) (Or.inr ⟨_, ⟨d, by omega, rfl, hq⟩, rfl⟩)
          refine ⟨m, by omega, fun e e1 e2 e3 => ?_, m3, m4⟩
          by_cases g : e = d
          · rw [g]; omega
          · exact m2 e (by omega) e2 e3
      · rw [if_neg (fun g => hq ((oN_eq (by omega) (by omega)).mp g))]
        obtain ⟨m, m1, m2, m3, m4⟩ := ih (d + 1) f m0 (by omega) (by omega) g3 g4 g5
        refine ⟨m, m1, fun e e1 e2 e3 => ?_, m3, m4⟩
        by_cases g : e = d
        · rw [g] at e3; exact absurd e3 hq
        · exact m2 e (by omega) e2 e3
  obtain ⟨m, m1, m2, m3, m4⟩ := W (nn v (100 + 60 * s)) 0 4000 1 (by omega) (by omega) (by omega) (by omega) (Or.inl rfl)
  refine ⟨m, m1, ?_, m3, m4⟩
  rintro f ⟨e, a, b, c⟩
  rw [← b]
  exact m2 e (by omega) a c
theorem X7_rounds68 (hi : ∀ a b, ad a = ad b → a = b) (hP : PT ad κ pr tr pa su) {v : Nat → Int32} {s : Nat} (hv : mv κ (ad 20) = v) (hG : GR v) (hs : s < nn v 1) (hac : ∀ l, ¬ rch v s l l) (hO : lst (iS ad κ 25) 0 (ordS v s)) (hZ : ∀ f, f < 16 → iS ad κ 26 f = 0) :
    ∃ m κ', P_X7_rounds_68 (ad 20) (oN s) (oN (ordS v s).length) 4000 κ 0 0 = some (oN m, κ') ∧ Fr ad (fun n => n = 26) κ κ' ∧ m ≤ sl v s ∧ (∀ l, l < sl v s → Tk (dmB v s) (sew0 v s) m l = true) ∧ ∀ j, j < m → ∃ l, l < sl v s ∧ Tk (dmB v s) (sew0 v s) j l = false := by
  have h16 := (hG.sl16 hs).1
  have hE := hG.E hs
  have hlen : (ordS v s).length ≤ left0 v s := ord_len _ _
  have hl0 : left0 v s ≤ sl v s := cn_le _ _
  have hpre := ord_pre (left0 v s) (sew0 v s) (ordS v s) rfl
  have hlt : ∀ t (ht : t < (ordS v s).length), (ordS v s)[t] < sl v s := fun t ht => ord_lt _ _ _ (List.getElem_mem ht)
  have L : ∀ (q k f most : Nat) (κ1 : jKt) (dv : Nat → Nat), k + q = (ordS v s).length → q < f → Fr ad (fun n => n = 26) κ κ1 → (∀ f, f < 16 → iS ad κ1 26 f = oN (dv f)) → (∀ f, dv f ≤ k) →
      (∀ f, (¬ ∃ t, ∃ ht : t < (ordS v s).length, t < k ∧ (ordS v s)[t] = f) → dv f = 0) → (∀ t (ht : t < (ordS v s).length), t < k → 1 ≤ dv (ordS v s)[t] ∧ dv (ordS v s)[t] ≤ most ∧ Tk (dmB v s) (sew0 v s) (dv (ordS v s)[t]) (ordS v s)[t] = true ∧ Tk (dmB v s) (sew0 v s) (dv (ordS v s)[t] - 1) (ordS v s)[t] = false) →
      (most = 0 ∨ ∃ l, l < sl v s ∧ dv l = most ∧ Tk (dmB v s) (sew0 v s) (most - 1) l = false) → most ≤ k →
      ∃ m κ', P_X7_rounds_68 (ad 20) (oN s) (oN (ordS v s).length) f κ1 (oN most) (oN k) = some (oN m, κ') ∧ Fr ad (fun n => n = 26) κ κ' ∧ m ≤ sl v s ∧ (∀ l, l < sl v s → Tk (dmB v s) (sew0 v s) m l = true) ∧ ∀ j, j < m → ∃ l, l < sl v s ∧ Tk (dmB v s) (sew0 v s) j l = false := by
    intro q
    induction q with
    | zero =>
      intro k f most κ1 dv h1 h2 hF hd hdk hd0 hdp hm hmk
      obtain ⟨f, rfl⟩ : ∃ g, f = g + 1 := ⟨f - 1, by omega⟩
      refine ⟨most, κ1, ?_, hF, by omega, fun l hl => ?_, fun j hj => ?_⟩
      · rw [P_X7_rounds_68, if_pos ((oN_le (by omega) (by omega)).mpr (by omega))]
      · by_cases hS : sew0 v s l = true
        · exact Tk_le (Nat.zero_le _) (show Tk (dmB v s) (sew0 v s) 0 l = true from hS)
        · have hSf : sew0 v s l = false := by cases h : sew0 v s l
                                              · rfl
                                              · exact absurd h hS
          have hmem : l ∈ ordS v s := ord_all hE hac (left0 v s) (sew0 v s) rfl l hl hSf
          obtain ⟨t, ht, e⟩ := List.mem_iff_getElem.mp hmem
          obtain ⟨a1, a2, a3, a4⟩ := hdp t ht (by omega)
          rw [e] at a2 a3
          exact Tk_le a2 a3
      · rcases hm with hm | ⟨l, l1, l2, l3⟩
        · omega
        · refine ⟨l, l1, ?_⟩
          cases hx : Tk (dmB v s) (sew0 v s) j l
          · rfl
          · rw [Tk_le (by omega) hx] at l3; cases l3
    | succ q ih =>
      intro k f most κ1 dv h1 h2 hF hd hdk hd0 hdp hm hmk
      obtain ⟨f, rfl⟩ : ∃ g, f = g + 1 := ⟨f - 1, by omega⟩
      have hp1 := hF.pt hP
      have hv1 : mv κ1 (ad 20) = v := by rw [hF.mv hP (by omega)]; exact hv
      have hkl : k < (ordS v s).length := by omega
      have hr : kI κ1 (kR κ1 (ad 20) 9) k = oN ((ordS v s)[k]) := by
        rw [hp1.or]
        have := hO k hkl
        rw [Nat.zero_add] at this
        rw [← this]
        exact hF.i (n := 25) (by omega) k
      obtain ⟨b1, b2, b3⟩ := hpre k hkl
      have hlk := hlt k hkl
      obtain ⟨m, m1, m2, m3, m4⟩ := X7_level hi hp1 hv1 hG hs (l := (ordS v s)[k]) (by omega) hd (fun f => by have := hdk f; omega) most k (ordS v s).length (by omega) (by omega) (P_X7_rounds_68 (ad 20) (oN s) (oN (ordS v s).length) f)
      have hnew : ∀ t (ht : t < (ordS v s).length), t < k → (ordS v s)[t] ≠ (ordS v s)[k] := fun t ht htk => b3 t htk
      -- what a demanded sleeve has
      have hdem : ∀ f, dmB v s (ordS v s)[k] f → Tk (dmB v s) (sew0 v s) (dv f) f = true := by
        intro f hf
        rcases b2 f hf with g | ⟨u, hu, g⟩
        · exact Tk_le (Nat.zero_le _) (show Tk (dmB v s) (sew0 v s) 0 f = true from g)
        · have := (hdp u (by omega) hu).2.2.1
          rw [g] at this
          exact this
      have hmk2 : m ≤ k + 1 := by
        rcases m3 with e | ⟨f, f1, f2⟩
        · omega
        · have := hdk f; omega
      have hT1 : Tk (dmB v s) (sew0 v s) m (ordS v s)[k] = true := by
        obtain ⟨m', rfl⟩ : ∃ m', m = m' + 1 := ⟨m - 1, by omega⟩
        show (Tk (dmB v s) (sew0 v s) m' (ordS v s)[k] || fre (dmB v s) (Tk (dmB v s) (sew0 v s) m') (ordS v s)[k]) = true
        cases hx : Tk (dmB v s) (sew0 v s) m' (ordS v s)[k]
        · rw [Bool.false_or]
          refine pb_t.mpr ⟨hx, ?_⟩
          rintro ⟨f, f1, f2⟩
          have := m2 f f1
          rw [Tk_le (by omega) (hdem f f1)] at f2; cases f2
        · rfl
      have hT0 : Tk (dmB v s) (sew0 v s) (m - 1) (ordS v s)[k] = false := by
        rcases m3 with e | ⟨f, f1, f2⟩
        · rw [e]; exact b1
        · by_cases e0 : dv f = 0
          · rw [f2, e0]; exact b1
          · have hproc : ∃ t, ∃ ht : t < (ordS v s).length, t < k ∧ (ordS v s)[t] = f := Classical.byContradiction fun hc => e0 (hd0 f hc)
            obtain ⟨t, ht, t1, t2⟩ := hproc
            have := (hdp t ht t1).2.2.2
            rw [t2] at this
            cases hx : Tk (dmB v s) (sew0 v s) (m - 1) (ordS v s)[k]
            · rfl
            · have hh := Tk_d (k := dv f - 1) b1 f1 (by rw [show dv f - 1 + 1 = m - 1 by omega]; exact hx)
              rw [hh] at this; cases this
      have hF2 : Fr ad (fun n => n = 26) κ (kU κ1 (ad 26) (ordS v s)[k] (.int (oN m))) := hF.trans (Fr.U hi (by unfold iSl; omega) rfl)
      have hmm : max most m ≤ k + 1 := by rw [Nat.max_le]; omega
      obtain ⟨m', κ', q1, q2, q3⟩ := ih (k + 1) f (max most m) (kU κ1 (ad 26) (ordS v s)[k] (.int (oN m))) (fun f => if f = (ordS v s)[k] then m else dv f) (by omega) (by omega) hF2 (fun f hf => by
        rw [iS_U hi]
        by_cases e : f = (ordS v s)[k]
        · rw [if_pos ⟨rfl, e⟩, if_pos e]
        · rw [if_neg (fun g => e g.2), if_neg e]; exact hd f hf) (fun f => by
        by_cases e : f = (ordS v s)[k]
        · simp only [e, if_true]; exact hmk2
        · simp only [e, if_false]; have := hdk f; omega) (fun f hf => by
        by_cases e : f = (ordS v s)[k]
        · exact absurd ⟨k, hkl, by omega, e.symm⟩ hf
        · simp only [e, if_false]
          exact hd0 f (fun ⟨t, ht, t1, t2⟩ => hf ⟨t, ht, by omega, t2⟩)) (fun t ht htk => by
        by_cases e : t = k
        · subst e
          simp only [if_true]
          exact ⟨m1, Nat.le_max_right _ _, hT1, hT0⟩
        · have hne := hnew t ht (by omega)
          simp only [hne, if_false]
          obtain ⟨a1, a2, a3, a4⟩ := hdp t ht (by omega)
          exact ⟨a1, Nat.le_trans a2 (Nat.le_max_left _ _), a3, a4⟩) (by
        by_cases g : m ≤ most
        · rw [Nat.max_eq_left g]
          rcases hm with hm | ⟨l, l1, l2, l3⟩
          · omega
          · refine Or.inr ⟨l, l1, ?_, l3⟩
            have : l ≠ (ordS v s)[k] := by
              intro e
              have hz : dv l = 0 := hd0 l (fun ⟨t, ht, t1, t2⟩ => hnew t ht t1 (t2.trans e))
              omega
            simp only [this, if_false]; exact l2
        · rw [Nat.max_eq_right (by omega)]
          exact Or.inr ⟨(ordS v s)[k], hlk, by simp, hT0⟩) hmm
      refine ⟨m', κ', ?_, q2, q3⟩
      rw [P_X7_rounds_68, if_neg (fun h => by have := (oN_le (by omega) (by omega)).mp h; omega), ck_t ((oN_jin (by omega)).mpr (by omega)), oN_ix (by omega), bnd_e, hr, m4]
      exact q1
  exact L (ordS v s).length 0 4000 0 κ (fun _ => 0) (by omega) (by omega) (Fr.refl κ) (fun f hf => hZ f hf) (fun f => Nat.le_refl _) (fun f _ => rfl) (fun t ht htk => by omega) (Or.inl rfl) (by omega)
end ROUNDS
