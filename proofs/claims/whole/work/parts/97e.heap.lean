/-! ===== layer 3: the heap of sleeves ===== -/
def hm (h : Nat → Int32) (z : Nat) (x : Int32) : Prop := ∃ i, i < z ∧ h i = x
def hj (h : Nat → Int32) (z : Nat) : Prop := ∀ i j, i < z → j < z → h i = h j → i = j
def ho (h : Nat → Int32) (z : Nat) : Prop := ∀ i, 0 < i → i < z → h ((i - 1) / 2) ≤ h i
def swp (h : Nat → Int32) (c p : Nat) : Nat → Int32 := fun i => if h c < h p then (if i = c then h p else if i = p then h c else h i) else h i
theorem swp_m {h : Nat → Int32} {c p z : Nat} (hc : c < z) (hp : p < z) (x : Int32) : hm (swp h c p) z x ↔ hm h z x := by
  unfold hm swp
  by_cases g : h c < h p
  · simp only [g, if_true]
    constructor
    · rintro ⟨i, h1, h2⟩
      by_cases e : i = c
      · rw [if_pos e] at h2; exact ⟨p, hp, h2⟩
      · rw [if_neg e] at h2
        by_cases e2 : i = p
        · rw [if_pos e2] at h2; exact ⟨c, hc, h2⟩
        · rw [if_neg e2] at h2; exact ⟨i, h1, h2⟩
    · rintro ⟨i, h1, h2⟩
      by_cases e : i = c
      · by_cases e2 : p = c
        · exact ⟨c, hc, by rw [if_pos rfl, e2, ← e]; exact h2⟩
        · exact ⟨p, hp, by rw [if_neg e2, if_pos rfl, ← e]; exact h2⟩
      · by_cases e2 : i = p
        · exact ⟨c, hc, by rw [if_pos rfl, ← e2]; exact h2⟩
        · exact ⟨i, h1, by rw [if_neg e, if_neg e2]; exact h2⟩
  · simp only [g, if_false]
theorem swp_j {h : Nat → Int32} {c p z : Nat} (hc : c < z) (hp : p < z) (H : hj h z) : hj (swp h c p) z := by
  unfold swp
  by_cases g : h c < h p
  · simp only [g, if_true]
    intro i j hi hj e
    have key : ∀ i, i < z → ∀ j, j < z → h i = h j → i = j := fun i hi j hj => H i j hi hj
    by_cases a : i = c <;> by_cases b : j = c <;> by_cases a2 : i = p <;> by_cases b2 : j = p <;> simp only [a, b, a2, b2, if_true, if_false] at e <;> grind
  · simp only [g, if_false]; exact H
/-- the order but at c; what is above c is not above its children -/
def hoU (h : Nat → Int32) (z c : Nat) : Prop := (∀ i, 0 < i → i < z → i ≠ c → h ((i - 1) / 2) ≤ h i) ∧ (0 < c → ∀ i, 0 < i → i < z → (i - 1) / 2 = c → h ((c - 1) / 2) ≤ h i)
theorem swp_up {h : Nat → Int32} {c z : Nat} (hc : 0 < c) (hcz : c < z) (H : hoU h z c) : hoU (swp h c ((c - 1) / 2)) z ((c - 1) / 2) := by
  obtain ⟨h1, h2⟩ := H
  have hne : (c - 1) / 2 ≠ c := by omega
  have hpz : (c - 1) / 2 < z := by omega
  have h2' := h2 hc
  generalize hp : (c - 1) / 2 = p at *
  refine ⟨fun i i1 i2 i3 => ?_, fun p1 i i1 i2 i3 => ?_⟩
  · by_cases e : i = c
    · subst e
      rw [hp]
      unfold swp
      by_cases g : h i < h p
      · simp only [g, if_true, hne, if_false]; exact Int32.le_of_lt g
      · simp only [g, if_false]; exact Int32.not_lt.mp g
    · have a1 := h1 i i1 i2 e
      by_cases e2 : (i - 1) / 2 = c
      · have a2 := h2' i i1 i2 e2
        have a3 : ¬ i = p := i3
        rw [e2]
        rw [e2] at a1
        unfold swp
        by_cases g : h c < h p
        · simp only [g, if_true, e, a3, if_false]; exact a2
        · simp only [g, if_false]; exact a1
      · by_cases e3 : (i - 1) / 2 = p
        · rw [e3] at a1 ⊢
          unfold swp
          by_cases g : h c < h p
          · simp only [g, if_true, e, i3, hne, if_false]; exact Int32.le_trans (Int32.le_of_lt g) a1
          · simp only [g, if_false]; exact a1
        · unfold swp
          by_cases g : h c < h p
          · simp only [g, if_true, e, i3, e2, e3, if_false]; exact a1
          · simp only [g, if_false]; exact a1
  · have a0 := h1 p p1 hpz (by omega)
    have q1 : ¬ (p - 1) / 2 = c := by omega
    have q2 : ¬ (p - 1) / 2 = p := by omega
    have q3 : ¬ i = p := by omega
    unfold swp
    by_cases g : h c < h p
    · simp only [g, if_true, q1, q2, q3, if_false]
      by_cases e : i = c
      · simp only [e, if_true]; exact a0
      · simp only [e, if_false]
        have a1 := h1 i i1 i2 e
        rw [i3] at a1
        exact Int32.le_trans a0 a1
    · simp only [g, if_false]
      by_cases e : i = c
      · rw [e]; exact Int32.le_trans a0 (Int32.not_lt.mp g)
      · have a1 := h1 i i1 i2 e
        rw [i3] at a1
        exact Int32.le_trans a0 a1
/-- the order but below p; what is above p is not above its children -/
def hoD (h : Nat → Int32) (z p : Nat) : Prop := (∀ i, 0 < i → i < z → (i - 1) / 2 ≠ p → h ((i - 1) / 2) ≤ h i) ∧ (0 < p → ∀ i, 0 < i → i < z → (i - 1) / 2 = p → h ((p - 1) / 2) ≤ h i)
theorem swp_dn {h : Nat → Int32} {c p z : Nat} (hc0 : 0 < c) (hcz : c < z) (hp : (c - 1) / 2 = p) (hlow : ∀ i, 0 < i → i < z → (i - 1) / 2 = p → h c ≤ h i) (H : hoD h z p) : hoD (swp h c p) z c := by
  obtain ⟨h1, h2⟩ := H
  have hne : ¬ p = c := by omega
  refine ⟨fun i i1 i2 i3 => ?_, fun _ i i1 i2 i3 => ?_⟩
  · by_cases e : (i - 1) / 2 = p
    · have a1 := hlow i i1 i2 e
      have q1 : ¬ i = p := by omega
      rw [e]
      unfold swp
      by_cases g : h c < h p
      · simp only [g, if_true, hne, if_false, q1]
        by_cases e2 : i = c
        · simp only [e2, if_true]; exact Int32.le_of_lt g
        · simp only [e2, if_false]; exact a1
      · simp only [g, if_false]; exact Int32.le_trans (Int32.not_lt.mp g) a1
    · have a1 := h1 i i1 i2 e
      have q1 : ¬ i = c := fun g => e (by rw [g]; exact hp)
      unfold swp
      by_cases g : h c < h p
      · simp only [g, if_true, i3, e, q1, if_false]
        by_cases e2 : i = p
        · simp only [e2, if_true]
          have := h2 (by omega) c hc0 hcz hp
          exact this
        · simp only [e2, if_false]; exact a1
      · simp only [g, if_false]; exact a1
  · have a1 := h1 i i1 i2 (by omega)
    rw [i3] at a1
    have q1 : ¬ i = c := by omega
    have q2 : ¬ i = p := by omega
    rw [hp]
    unfold swp
    by_cases g : h c < h p
    · simp only [g, if_true, hne, if_false, q1, q2]; exact a1
    · simp only [g, if_false]; exact Int32.le_trans (Int32.not_lt.mp g) a1
theorem ho_min {h : Nat → Int32} {z : Nat} (H : ho h z) : ∀ (n i : Nat), i ≤ n → i < z → h 0 ≤ h i := by
  intro n
  induction n with
  | zero => intro i h1 h2; rw [show i = 0 by omega]; exact Int32.le_refl _
  | succ n ih =>
    intro i h1 h2
    by_cases e : i = 0
    · rw [e]; exact Int32.le_refl _
    · exact Int32.le_trans (ih ((i - 1) / 2) (by omega) (by omega)) (H i (by omega) h2)
theorem half : ∀ c, c < 17 → 0 < c → (oN c - 1) / 2 = oN ((c - 1) / 2) := by decide +kernel
section HEAP
variable {ad : Nat → Nat} {κ : jKt} {pr tr : Nat} {pa : Nat → Nat} {su : Nat → Nat → Nat}
theorem PT.hp (hP : PT ad κ pr tr pa su) : kR κ (ad 6) 0 = ad 7 := hP.2.2.1.2.2.2.2
theorem X3_swap (hi : ∀ a b, ad a = ad b → a = b) (hP : PT ad κ pr tr pa su) {c p : Nat} (hc : c < 16) (hp : p < 16) (hcp : c ≠ p) :
    ∃ κ', P_X3_swapIfLower κ (ad 6) (oN c) (oN p) = some κ' ∧ Fr ad (fun n => n = 6 ∨ n = 7) κ κ' ∧ (∀ j, iS ad κ' 7 j = swp (iS ad κ 7) c p j) ∧ ∀ j, iS ad κ' 6 j = iS ad κ 6 j := by
  unfold P_X3_swapIfLower
  rw [ck_t ((oN_jin (by omega)).mpr (by omega)), ck_t ((oN_jin (by omega)).mpr (by omega)), oN_ix (by omega), oN_ix (by omega), hP.hp]
  have e : ∀ j, kI κ (ad 7) j = iS ad κ 7 j := fun _ => rfl
  rw [e, e]
  by_cases g : iS ad κ 7 c < iS ad κ 7 p
  · rw [if_neg (Int32.not_le.mpr g), ck_t ((oN_jin (by omega)).mpr (by omega)), bnd_e, ck_t ((oN_jin (by omega)).mpr (by omega)), ck_t ((oN_jin (by omega)).mpr (by omega)), bnd_e, ck_t ((oN_jin (by omega)).mpr (by omega))]
    have hF1 : Fr ad (fun n => n = 6 ∨ n = 7) κ (kU κ (ad 7) c (.int (iS ad κ 7 p))) := Fr.U hi (by unfold iSl; omega) (Or.inr rfl)
    have hF2 := hF1.trans (Fr.U hi (A := fun n => n = 6 ∨ n = 7) (κ := kU κ (ad 7) c (.int (iS ad κ 7 p))) (n := 7) (j := p) (x := iS ad κ 7 c) (by unfold iSl; omega) (Or.inr rfl))
    rw [bnd_e, (hF1.pt hP).hp]
    refine ⟨_, rfl, hF2, fun j => ?_, fun j => ?_⟩
    · rw [iS_U hi, iS_U hi]
      unfold swp
      rw [if_pos g]
      by_cases a : j = p
      · have : ¬ j = c := fun q => hcp (q.symm.trans a)
        rw [if_pos ⟨rfl, a⟩, if_neg this, if_pos a]
      · by_cases b : j = c
        · rw [if_neg (fun q => a q.2), if_pos ⟨rfl, b⟩, if_pos b]
        · rw [if_neg (fun q => a q.2), if_neg (fun q => b q.2), if_neg b, if_neg a]
    · rw [iS_U hi, if_neg (by omega), iS_U hi, if_neg (by omega)]
  · rw [if_pos (Int32.not_lt.mp g)]
    refine ⟨κ, rfl, Fr.refl κ, fun j => ?_, fun j => rfl⟩
    unfold swp
    rw [if_neg g]
theorem hm_c {h g : Nat → Int32} {z : Nat} (e : ∀ j, h j = g j) : h = g := funext e
theorem X3_add (hi : ∀ a b, ad a = ad b → a = b) (hP : PT ad κ pr tr pa su) {z x : Nat} (hz : iS ad κ 6 1 = oN z) (hz16 : z < 16) (H : ho (iS ad κ 7) z) (J : hj (iS ad κ 7) z) (hx : ¬ hm (iS ad κ 7) z (oN x)) :
    ∃ κ', P_X3_add κ (ad 6) (oN x) = some κ' ∧ Fr ad (fun n => n = 6 ∨ n = 7) κ κ' ∧ iS ad κ' 6 1 = oN (z + 1) ∧ ho (iS ad κ' 7) (z + 1) ∧ hj (iS ad κ' 7) (z + 1) ∧ ∀ y, hm (iS ad κ' 7) (z + 1) y ↔ (hm (iS ad κ 7) z y ∨ y = oN x) := by
  have L : ∀ (c f : Nat) (κ1 : jKt), c ≤ z → c < f → Fr ad (fun n => n = 6 ∨ n = 7) κ κ1 → iS ad κ1 6 1 = oN (z + 1) → hoU (iS ad κ1 7) (z + 1) c → hj (iS ad κ1 7) (z + 1) → (∀ y, hm (iS ad κ1 7) (z + 1) y ↔ (hm (iS ad κ 7) z y ∨ y = oN x)) →
      ∃ κ', P_X3_add_37 (ad 6) f κ1 (oN c) = some κ' ∧ Fr ad (fun n => n = 6 ∨ n = 7) κ κ' ∧ iS ad κ' 6 1 = oN (z + 1) ∧ ho (iS ad κ' 7) (z + 1) ∧ hj (iS ad κ' 7) (z + 1) ∧ ∀ y, hm (iS ad κ' 7) (z + 1) y ↔ (hm (iS ad κ 7) z y ∨ y = oN x) := by
    intro c
    induction c using Nat.strongRecOn with
    | ind c ih =>
      intro f κ1 h1 h2 hF hz1 hU hJ hM
      obtain ⟨f, rfl⟩ : ∃ g, f = g + 1 := ⟨f - 1, by omega⟩
      rw [P_X3_add_37]
      by_cases e : c = 0
      · subst e
        rw [if_pos (by decide)]
        exact ⟨κ1, rfl, hF, hz1, fun i i1 i2 => hU.1 i i1 i2 (by omega), hJ, hM⟩
      · rw [if_neg (by rw [show (0 : Int32) = oN 0 from rfl]; exact fun h => by have := (oN_le (by omega) (by omega)).mp h; omega), half c (by omega) (by omega)]
        obtain ⟨κ2, q1, q2, q3, q4⟩ := X3_swap hi (hF.pt hP) (c := c) (p := (c - 1) / 2) (by omega) (by omega) (by omega)
        have e7 : iS ad κ2 7 = swp (iS ad κ1 7) c ((c - 1) / 2) := funext q3
        rw [q1, bd_s]
        refine ih ((c - 1) / 2) (by omega) f κ2 (by omega) (by omega) (hF.trans q2) (by rw [q4]; exact hz1) ?_ ?_ (fun y => ?_)
        · rw [e7]; exact swp_up (by omega) (by omega) hU
        · rw [e7]; exact swp_j (by omega) (by omega) hJ
        · rw [e7, swp_m (by omega) (by omega)]; exact hM y
  unfold P_X3_add
  have hz' : kI κ (ad 6) 1 = oN z := hz
  have F1 : Fr ad (fun n => n = 6 ∨ n = 7) κ (kU κ (ad 7) z (.int (oN x))) := Fr.U hi (by unfold iSl; omega) (Or.inr rfl)
  have z1 : kI (kU κ (ad 7) z (.int (oN x))) (ad 6) 1 = oN z := by
    have := iS_U hi (κ := κ) (n := 7) (j := z) (x := oN x) 6 1
    rw [if_neg (by omega)] at this
    exact this.trans hz
  have e1 : (oN z + 1 : Int32) = oN (z + 1) := oN_add z 1
  have F2 : Fr ad (fun n => n = 6 ∨ n = 7) κ (kU (kU κ (ad 7) z (.int (oN x))) (ad 6) 1 (.int (oN (z + 1)))) := F1.trans (Fr.U hi (by unfold iSl; omega) (Or.inl rfl))
  have z2 : kI (kU (kU κ (ad 7) z (.int (oN x))) (ad 6) 1 (.int (oN (z + 1)))) (ad 6) 1 = oN (z + 1) := by
    have := iS_U hi (κ := kU κ (ad 7) z (.int (oN x))) (n := 6) (j := 1) (x := oN (z + 1)) 6 1
    rw [if_pos ⟨rfl, rfl⟩] at this
    exact this
  have e2 : (oN (z + 1) - 1 : Int32) = oN z := by rw [show (1 : Int32) = oN 1 from rfl, oN_sub (by omega)]; rfl
  have h7 : ∀ j, iS ad (kU (kU κ (ad 7) z (.int (oN x))) (ad 6) 1 (.int (oN (z + 1)))) 7 j = if j = z then oN x else iS ad κ 7 j := by
    intro j
    rw [iS_U hi, if_neg (by omega), iS_U hi]
    by_cases e : j = z
    · rw [if_pos ⟨rfl, e⟩, if_pos e]
    · rw [if_neg (by omega), if_neg e]
  rw [hz', if_neg (by rw [show (16 : Int32) = oN 16 from rfl]; exact fun h => by have := (oN_eq (by omega) (by omega)).mp h; omega), ck_t ((oN_jin (by omega)).mpr (by omega)), oN_ix (by omega), bnd_e, hP.hp, z1, e1, bnd_e, z2, e2, bnd_e]
  refine L z 4000 _ (Nat.le_refl _) (by omega) F2 z2 ⟨fun i i1 i2 i3 => ?_, fun _ i i1 i2 i3 => by omega⟩ (fun i j i1 j1 e => ?_) (fun y => ?_)
  · rw [h7, h7, if_neg (by omega), if_neg (by omega)]
    exact H i i1 (by omega)
  · rw [h7, h7] at e
    by_cases a : i = z <;> by_cases b : j = z
    · omega
    · rw [if_pos a, if_neg b] at e
      exact absurd ⟨j, by omega, e.symm⟩ hx
    · rw [if_neg a, if_pos b] at e
      exact absurd ⟨i, by omega, e⟩ hx
    · rw [if_neg a, if_neg b] at e
      exact J i j (by omega) (by omega) e
  · constructor
    · rintro ⟨i, i1, i2⟩
      rw [h7] at i2
      by_cases a : i = z
      · rw [if_pos a] at i2; exact Or.inr i2.symm
      · rw [if_neg a] at i2; exact Or.inl ⟨i, by omega, i2⟩
    · rintro (⟨i, i1, i2⟩ | e)
      · exact ⟨i, by omega, by rw [h7, if_neg (by omega)]; exact i2⟩
      · exact ⟨z, by omega, by rw [h7, if_pos rfl]; exact e.symm⟩
theorem X3_lowerChild (hP : PT ad κ pr tr pa su) {z p : Nat} (hz : iS ad κ 6 1 = oN z) (hz16 : z ≤ 16) (hp : 2 * p + 1 < z) : ∃ c, P_X3_lowerChildOf κ (ad 6) (oN p) = some (oN c) ∧ (c - 1) / 2 = p ∧ 0 < c ∧ c < z ∧ ∀ i, 0 < i → i < z → (i - 1) / 2 = p → iS ad κ 7 c ≤ iS ad κ 7 i := by
  have hz' : kI κ (ad 6) 1 = oN z := hz
  have e1 : (2 * oN p + 1 : Int32) = oN (2 * p + 1) := by rw [show (2 : Int32) = oN 2 from rfl, oN_mul]; exact oN_add _ 1
  have e2 : (oN (2 * p + 1) + 1 : Int32) = oN (2 * p + 2) := oN_add _ 1
  unfold P_X3_lowerChildOf
  rw [e1, e2, hz']
  by_cases g : z ≤ 2 * p + 2
  · rw [if_pos ((oN_le (by omega) (by omega)).mpr (by omega))]
    refine ⟨2 * p + 1, rfl, by omega, by omega, hp, fun i i1 i2 i3 => ?_⟩
    rw [show i = 2 * p + 1 by omega]
    exact Int32.le_refl _
  · rw [if_neg (fun h => by have := (oN_le (by omega) (by omega)).mp h; omega), ck_t ((oN_jin (by omega)).mpr (by omega)), ck_t ((oN_jin (by omega)).mpr (by omega)), oN_ix (by omega), oN_ix (by omega), hP.hp]
    have e : ∀ j, kI κ (ad 7) j = iS ad κ 7 j := fun _ => rfl
    rw [e, e]
    by_cases q : iS ad κ 7 (2 * p + 1) ≤ iS ad κ 7 (2 * p + 2)
    · rw [if_pos q]
      refine ⟨2 * p + 1, rfl, by omega, by omega, hp, fun i i1 i2 i3 => ?_⟩
      by_cases a : i = 2 * p + 1
      · rw [a]; exact Int32.le_refl _
      · rw [show i = 2 * p + 2 by omega]; exact q
    · rw [if_neg q]
      refine ⟨2 * p + 2, rfl, by omega, by omega, by omega, fun i i1 i2 i3 => ?_⟩
      by_cases a : i = 2 * p + 2
      · rw [a]; exact Int32.le_refl _
      · rw [show i = 2 * p + 1 by omega]; exact Int32.le_of_lt (Int32.not_le.mp q)
theorem X3_take (hi : ∀ a b, ad a = ad b → a = b) (hP : PT ad κ pr tr pa su) {z : Nat} (hz : iS ad κ 6 1 = oN (z + 1)) (hz16 : z + 1 ≤ 16) (H : ho (iS ad κ 7) (z + 1)) (J : hj (iS ad κ 7) (z + 1)) :
    ∃ κ', P_X3_takeLowest κ (ad 6) = some (iS ad κ 7 0, κ') ∧ Fr ad (fun n => n = 6 ∨ n = 7) κ κ' ∧ iS ad κ' 6 1 = oN z ∧ ho (iS ad κ' 7) z ∧ hj (iS ad κ' 7) z ∧ (∀ y, hm (iS ad κ' 7) z y ↔ (hm (iS ad κ 7) (z + 1) y ∧ y ≠ iS ad κ 7 0)) ∧ ∀ y, hm (iS ad κ 7) (z + 1) y → iS ad κ 7 0 ≤ y := by
  have L : ∀ (k p st f : Nat) (κ1 : jKt), z ≤ p + k → k < f → st ≤ p → Fr ad (fun n => n = 6 ∨ n = 7) κ κ1 → iS ad κ1 6 1 = oN z → hoD (iS ad κ1 7) z p → hj (iS ad κ1 7) z → (∀ y, hm (iS ad κ1 7) z y ↔ (hm (iS ad κ 7) (z + 1) y ∧ y ≠ iS ad κ 7 0)) → p < 40 →
      ∃ κ', P_X3_sinkTop_4 (ad 6) f κ1 (oN p) (oN st) = some κ' ∧ Fr ad (fun n => n = 6 ∨ n = 7) κ κ' ∧ iS ad κ' 6 1 = oN z ∧ ho (iS ad κ' 7) z ∧ hj (iS ad κ' 7) z ∧ (∀ y, hm (iS ad κ' 7) z y ↔ (hm (iS ad κ 7) (z + 1) y ∧ y ≠ iS ad κ 7 0)) := by
    intro k
    induction k with
    | zero =>
      intro p st f κ1 h1 h2 h3 hF hz1 hD hJ hM hp40
      obtain ⟨f, rfl⟩ : ∃ g, f = g + 1 := ⟨f - 1, by omega⟩
      refine ⟨κ1, ?_, hF, hz1, fun i i1 i2 => hD.1 i i1 i2 (by omega), hJ, hM⟩
      have hz' : kI κ1 (ad 6) 1 = oN z := hz1
      have e1 : (2 * oN p + 1 : Int32) = oN (2 * p + 1) := by rw [show (2 : Int32) = oN 2 from rfl, oN_mul]; exact oN_add _ 1
      rw [P_X3_sinkTop_4, hz', e1]
      by_cases g : z ≤ st
      · rw [if_pos ((oN_le (by omega) (by omega)).mpr (by omega))]
      · rw [if_neg (fun h => by have := (oN_le (by omega) (by omega)).mp h; omega), if_pos ((oN_le (by omega) (by omega)).mpr (by omega))]
    | succ k ih =>
      intro p st f κ1 h1 h2 h3 hF hz1 hD hJ hM hp40
      obtain ⟨f, rfl⟩ : ∃ g, f = g + 1 := ⟨f - 1, by omega⟩
      have hz' : kI κ1 (ad 6) 1 = oN z := hz1
      have e1 : (2 * oN p + 1 : Int32) = oN (2 * p + 1) := by rw [show (2 : Int32) = oN 2 from rfl, oN_mul]; exact oN_add _ 1
      have e3 : (oN st + 1 : Int32) = oN (st + 1) := oN_add _ 1
      rw [P_X3_sinkTop_4, hz', e1, e3]
      by_cases g : z ≤ 2 * p + 1
      · refine ⟨κ1, ?_, hF, hz1, fun i i1 i2 => hD.1 i i1 i2 (by omega), hJ, hM⟩
        by_cases g2 : z ≤ st
        · rw [if_pos ((oN_le (by omega) (by omega)).mpr (by omega))]
        · rw [if_neg (fun h => by have := (oN_le (by omega) (by omega)).mp h; omega), if_pos ((oN_le (by omega) (by omega)).mpr (by omega))]
      · obtain ⟨c, c1, c2, c3, c4, c5⟩ := X3_lowerChild (hF.pt hP) hz1 (by omega) (p := p) (by omega)
        obtain ⟨κ2, q1, q2, q3, q4⟩ := X3_swap hi (hF.pt hP) (c := c) (p := p) (by omega) (by omega) (by omega)
        have e7 : iS ad κ2 7 = swp (iS ad κ1 7) c p := funext q3
        rw [if_neg (fun h => by have := (oN_le (by omega) (by omega)).mp h; omega), if_neg (fun h => by have := (oN_le (by omega) (by omega)).mp h; omega), c1, bd_s, q1, bd_s]
        refine ih c (st + 1) f κ2 (by omega) (by omega) (by omega) (hF.trans q2) (by rw [q4]; exact hz1) ?_ ?_ (fun y => ?_) (by omega)
        · rw [e7]; exact swp_dn c3 c4 c2 c5 hD
        · rw [e7]; exact swp_j (by omega) (by omega) hJ
        · rw [e7, swp_m (by omega) (by omega)]; exact hM y
  have hz' : kI κ (ad 6) 1 = oN (z + 1) := hz
  have e0 : (oN (z + 1) - 1 : Int32) = oN z := by rw [show (1 : Int32) = oN 1 from rfl, oN_sub (by omega)]; rfl
  have F1 : Fr ad (fun n => n = 6 ∨ n = 7) κ (kU κ (ad 6) 1 (.int (oN z))) := Fr.U hi (by unfold iSl; omega) (Or.inl rfl)
  have p1 := (F1.pt hP).hp
  have z1 : kI (kU κ (ad 6) 1 (.int (oN z))) (ad 6) 1 = oN z := by
    have := iS_U hi (κ := κ) (n := 6) (j := 1) (x := oN z) 6 1
    rw [if_pos ⟨rfl, rfl⟩] at this
    exact this
  have z3 : kI (kU κ (ad 6) 1 (.int (oN z))) (ad 7) z = iS ad κ 7 z := by
    have := iS_U hi (κ := κ) (n := 6) (j := 1) (x := oN z) 7 z
    rw [if_neg (by omega)] at this
    exact this
  have F2 : Fr ad (fun n => n = 6 ∨ n = 7) κ (kU (kU κ (ad 6) 1 (.int (oN z))) (ad 7) 0 (.int (iS ad κ 7 z))) := F1.trans (Fr.U hi (by unfold iSl; omega) (Or.inr rfl))
  have z2 : iS ad (kU (kU κ (ad 6) 1 (.int (oN z))) (ad 7) 0 (.int (iS ad κ 7 z))) 6 1 = oN z := by
    rw [iS_U hi, if_neg (by omega)]; exact z1
  have h7 : ∀ j, iS ad (kU (kU κ (ad 6) 1 (.int (oN z))) (ad 7) 0 (.int (iS ad κ 7 z))) 7 j = if j = 0 then iS ad κ 7 z else iS ad κ 7 j := by
    intro j
    rw [iS_U hi, iS_U hi]
    by_cases e : j = 0
    · rw [if_pos ⟨rfl, e⟩, if_pos e]
    · rw [if_neg (by omega), if_neg (by omega), if_neg e]
  obtain ⟨κ', q1, q2, q3, q4, q5, q6⟩ := L z 0 0 4000 _ (by omega) (by omega) (by omega) F2 z2 ⟨fun i i1 i2 i3 => by
      rw [h7, h7, if_neg (by omega), if_neg (by omega)]; exact H i i1 (by omega), fun g => by omega⟩ (fun i j i1 j1 e => by
      rw [h7, h7] at e
      by_cases a : i = 0 <;> by_cases b : j = 0
      · omega
      · rw [if_pos a, if_neg b] at e
        have := J z j (by omega) (by omega) e; omega
      · rw [if_neg a, if_pos b] at e
        have := J i z (by omega) (by omega) e; omega
      · rw [if_neg a, if_neg b] at e
        exact J i j (by omega) (by omega) e) (fun y => by
      constructor
      · rintro ⟨i, i1, i2⟩
        rw [h7] at i2
        by_cases a : i = 0
        · rw [if_pos a] at i2
          refine ⟨⟨z, by omega, i2⟩, fun g => ?_⟩
          have := J z 0 (by omega) (by omega) (i2.trans g); omega
        · rw [if_neg a] at i2
          refine ⟨⟨i, by omega, i2⟩, fun g => ?_⟩
          have := J i 0 (by omega) (by omega) (i2.trans g); omega
      · rintro ⟨⟨i, i1, i2⟩, i3⟩
        have a : i ≠ 0 := fun g => i3 (by rw [← i2, g])
        by_cases b : i = z
        · exact ⟨0, by omega, by rw [h7, if_pos rfl, ← b]; exact i2⟩
        · exact ⟨i, by omega, by rw [h7, if_neg a]; exact i2⟩) (by omega)
  refine ⟨κ', ?_, q2, q3, q4, q5, q6, ?_⟩
  · unfold P_X3_takeLowest
    rw [hz', if_neg (by rw [show (0 : Int32) = oN 0 from rfl]; exact fun h => by have := (oN_eq (by omega) (by omega)).mp h; omega), hP.hp, bnd_e, e0, bnd_e, z1, ck_t ((oN_jin (by omega)).mpr (by omega)), p1, oN_ix (by omega), z3, bnd_e]
    unfold P_X3_sinkTop
    have q1' : P_X3_sinkTop_4 (ad 6) 4000 (kU (kU κ (ad 6) 1 (.int (oN z))) (ad 7) (ix 0) (.int (iS ad κ 7 z))) 0 0 = some κ' := q1
    rw [q1', bd_s]
    rfl
  · rintro y ⟨i, i1, i2⟩
    rw [← i2]
    exact ho_min H i i (Nat.le_refl _) i1
theorem X3_take0 (hz : iS ad κ 6 1 = oN 0) : P_X3_takeLowest κ (ad 6) = some (-1, κ) := by
  unfold P_X3_takeLowest
  have hz' : kI κ (ad 6) 1 = 0 := hz
  rw [hz', if_pos rfl]
end HEAP
