/-! ===== layer 3: a suit and a customer seen through their rows: class and model answer alike ===== -/
/-- the customer at address a shows the customer c of the row v -/
def CV (κ : jKt) (a : Nat) (v : Nat → Int32) (c : Nat) : Prop :=
  kI κ a 0 = oN (2 * nn v (12 + 17 * c)) ∧ ∀ l, l < 2 * nn v (12 + 17 * c) → cLg κ a l = v (13 + 17 * c + l)
/-- the suit at address a shows the suit s of the row v -/
def SV (κ : jKt) (a : Nat) (v : Nat → Int32) (s : Nat) : Prop :=
  kI κ a 0 = v (97 + 60 * s) ∧ kI κ a 1 = v (98 + 60 * s) ∧ kI κ a 2 = v (99 + 60 * s) ∧ kI κ a 3 = oN (sl v s) ∧ kI κ a 4 = v (100 + 60 * s) ∧
  ∀ l, l < sl v s → sSt κ a l = ltr (v (101 + 60 * s + l)) ∧ (v (101 + 60 * s + l) ≠ 0 → sLn κ a l = v (117 + 60 * s + l)) ∧ ∀ f, f < 32 → (bt (sDm κ a l) f = true ↔ dmB v s l f)
theorem RRel.sv {ad : Nat → Nat} {κ : jKt} {pr tr : Nat} {pa : Nat → Nat} {su : Nat → Nat → Nat} (hP : PT ad κ pr tr pa su) {r : Nat} (hr : r < 11) {v : Nat → Int32} (h : RRel (iS ad κ) r (su r) v) {s : Nat} (hs : s < nn v 1) (hk : su r s < 6) : SV κ (ad (bR r + 14 + 4 * su r s)) v s := by
  obtain ⟨-, -, -, h3, -⟩ := h
  obtain ⟨s1, s2, s3, s4, s5, s6⟩ := h3 s hs
  obtain ⟨k1, k2, k3⟩ := (hP.2.2.2.2.2 r hr).2.2.2 _ hk
  refine ⟨s1, s2, s3, s4, s5, fun l hl => ?_⟩
  obtain ⟨t1, t2, t3⟩ := s6 l hl
  refine ⟨?_, fun hp => ?_, fun f hf => ?_⟩
  · show kI κ (kR κ _ 5) l = _
    rw [k1, ← t1]
    unfold iS
    rw [show bR r + 14 + 4 * su r s + 1 = bR r + 15 + 4 * su r s by omega]
  · show kI κ (kR κ _ 6) l = _
    rw [k2, ← t2 hp]
    unfold iS
    rw [show bR r + 14 + 4 * su r s + 2 = bR r + 16 + 4 * su r s by omega]
  · rw [← t3 f hf]
    show (bt (kI κ (kR κ _ 7) l) f = true ↔ _)
    rw [k3]
    unfold iS
    rw [show bR r + 14 + 4 * su r s + 3 = bR r + 17 + 4 * su r s by omega]
theorem RRel.cv {ad : Nat → Nat} {κ : jKt} {pr tr : Nat} {pa : Nat → Nat} {su : Nat → Nat → Nat} (hP : PT ad κ pr tr pa su) {r : Nat} (hr : r < 11) {v : Nat → Int32} (h : RRel (iS ad κ) r (su r) v) {c : Nat} (hc : c < nn v 0) (h5 : c < 5) : CV κ (ad (bR r + 4 + 2 * c)) v c := by
  obtain ⟨-, -, h2, -⟩ := h
  obtain ⟨s1, s2⟩ := h2 c hc
  have k1 := ((hP.2.2.2.2.2 r hr).2.1 c h5).2
  refine ⟨s1, fun l hl => ?_⟩
  show kI κ (kR κ _ 1) l = _
  rw [k1, ← s2 l hl]
  unfold iS
  rw [show bR r + 4 + 2 * c + 1 = bR r + 5 + 2 * c by omega]
theorem ltr_p (x : Int32) : ltr x = 112 ↔ x = 0 := by
  unfold ltr
  by_cases h : x = 0
  · rw [if_pos h]; exact ⟨fun _ => h, fun _ => rfl⟩
  · rw [if_neg h]
    by_cases h1 : x = 1
    · rw [if_pos h1]; exact ⟨fun g => absurd g (by decide), fun g => absurd g h⟩
    · rw [if_neg h1]; exact ⟨fun g => absurd g (by decide), fun g => absurd g h⟩
theorem ltr_s (x : Int32) : ltr x = 115 ↔ x ≠ 0 ∧ x ≠ 1 := by
  unfold ltr
  by_cases h : x = 0
  · rw [if_pos h]; exact ⟨fun g => absurd g (by decide), fun g => absurd h g.1⟩
  · rw [if_neg h]
    by_cases h1 : x = 1
    · rw [if_pos h1]; exact ⟨fun g => absurd g (by decide), fun g => absurd h1 g.2⟩
    · rw [if_neg h1]; exact ⟨fun _ => ⟨h, h1⟩, fun _ => rfl⟩
theorem GR.sl16 {v : Nat → Int32} (hG : GR v) {s : Nat} (hs : s < nn v 1) : sl v s ≤ 16 ∧ 2 ≤ sl v s := by
  obtain ⟨-, -, g2, g3⟩ := hG
  obtain ⟨-, w2, -⟩ := g3 s hs
  obtain ⟨p1, -⟩ := g2 _ w2
  unfold sl
  exact ⟨by have := p1.2.2; omega, by have := p1.2.1; omega⟩
theorem SV_cloth {κ : jKt} {a : Nat} {v : Nat → Int32} {s : Nat} (h : SV κ a v s) (hG : GR v) (hs : s < nn v 1) : P_X4_clothInside κ a = some (sm (fun l => if v (101 + 60 * s + l) = 0 then 0 else v (117 + 60 * s + l) + 2) 0 (sl v s) 0) := by
  rw [X4_clothInside h.2.2.2.1 (hG.sl16 hs).1]
  congr 1
  refine sm_c _ _ _ (fun l _ hl => ?_)
  obtain ⟨t1, t2, -⟩ := h.2.2.2.2.2 l (by omega)
  by_cases hp : v (101 + 60 * s + l) = 0
  · rw [if_pos hp, if_pos (by rw [t1]; exact (ltr_p _).mpr hp)]
  · rw [if_neg hp, if_neg (by rw [t1]; exact fun g => hp ((ltr_p _).mp g)), t2 hp]
theorem SV_need {κ : jKt} {a b : Nat} {v : Nat → Int32} {s : Nat} (h : SV κ a v s) (hG : GR v) (hs : s < nn v 1) (hc : CV κ b v (nn v (98 + 60 * s))) : P_X4_neededBySleeve κ a b = some (sm (fun l => if v (101 + 60 * s + l) = 0 then v (13 + 17 * nn v (98 + 60 * s) + l) + 2 else 0) 0 (sl v s) 0) := by
  rw [X4_neededBySleeve h.2.2.2.1 (hG.sl16 hs).1]
  congr 1
  refine sm_c _ _ _ (fun l _ hl => ?_)
  obtain ⟨t1, t2, -⟩ := h.2.2.2.2.2 l (by omega)
  have t3 := hc.2 l (by unfold sl at hl; omega)
  by_cases hp : v (101 + 60 * s + l) = 0
  · rw [if_pos hp, if_pos (by rw [t1]; exact (ltr_p _).mpr hp), t3]
  · rw [if_neg hp, if_neg (by rw [t1]; exact fun g => hp ((ltr_p _).mp g))]
theorem SV_needd {κ : jKt} {a b : Nat} {v : Nat → Int32} {s : Nat} (h : SV κ a v s) (hG : GR v) (hs : s < nn v 1) (hc : CV κ b v (nn v (98 + 60 * s))) : P_X4_neededByDifference κ a b = some (sm (fun l => if v (101 + 60 * s + l) = 0 then v (13 + 17 * nn v (98 + 60 * s) + l) + 2 else 0) 0 (sl v s) 0) := by
  rw [needed_both h.2.2.2.1 hc.1 (hG.sl16 hs).1]
  exact SV_need h hG hs hc
theorem SV_worth {κ : jKt} {a b : Nat} {v : Nat → Int32} {s : Nat} (h : SV κ a v s) (hG : GR v) (hs : s < nn v 1) (hc : CV κ b v (nn v (98 + 60 * s))) : P_X4_priceFor κ a b = some (sm (fun l => if v (101 + 60 * s + l) = 0 then v (13 + 17 * nn v (98 + 60 * s) + l) else v (117 + 60 * s + l)) 0 (sl v s) (3 * v (100 + 60 * s))) := by
  rw [X4_priceFor h.2.2.2.1 (hG.sl16 hs).1, h.2.2.2.2.1]
  congr 1
  refine sm_c _ _ _ (fun l _ hl => ?_)
  obtain ⟨t1, t2, -⟩ := h.2.2.2.2.2 l (by omega)
  have t3 := hc.2 l (by unfold sl at hl; omega)
  by_cases hp : v (101 + 60 * s + l) = 0
  · rw [if_pos hp, if_pos (by rw [t1]; exact (ltr_p _).mpr hp), t3]
  · rw [if_neg hp, if_neg (by rw [t1]; exact fun g => hp ((ltr_p _).mp g)), t2 hp]
/-- the demands that a suit's sets hold are those of its row -/
theorem SV_D {κ : jKt} {a : Nat} {v : Nat → Int32} {s : Nat} (h : SV κ a v s) (hG : GR v) (hs : s < nn v 1) : ∀ l j, l < sl v s → j < 32 → bt (sDm κ a l) j = true → j < sl v s := by
  intro l j hl hj hb
  obtain ⟨d, h1, h2, h3⟩ := ((h.2.2.2.2.2 l hl).2.2 j hj).mp hb
  have := ((hG.2.2.2 s hs).2.2.2.2.2 d h1).2.2.1
  omega
theorem SV_bfr {κ : jKt} {a : Nat} {v : Nat → Int32} {s : Nat} (h : SV κ a v s) (hG : GR v) (hs : s < nn v 1) (f l : Nat) : bfr κ a (sl v s) f l ↔ rch v s f l := by
  have h16 := (hG.sl16 hs).1
  constructor
  · intro g
    have : ∀ f, f < 32 → ∀ l, bfr κ a (sl v s) f l → rch v s f l := by
      intro f hf l g
      induction g with
      | single k => exact Relation.TransGen.single (((h.2.2.2.2.2 _ k.1).2.2 _ hf).mp k.2)
      | tail hb k ih =>
        rename_i b c
        have hb32 : b < 32 := by
          cases hb with
          | single k => have := k.1; omega
          | tail _ k => have := k.1; omega
        exact Relation.TransGen.tail ih (((h.2.2.2.2.2 _ k.1).2.2 _ hb32).mp k.2)
    by_cases hf : f < 32
    · exact this f hf l g
    · exfalso
      have hno : ∀ (x : Int32), bt x f = true → f < 32 := by
        intro x hx
        exact Classical.byContradiction fun hc => by
          have := b_big (x := x) (i := f) (by omega)
          rw [this] at hx; cases hx
      have : ∀ l, bfr κ a (sl v s) f l → f < 32 := by
        intro l g
        induction g with
        | single k => exact hno _ k.2
        | tail _ _ ih => exact ih
      exact hf (this l g)
  · intro g
    refine tg_mono (fun x y k => ?_) g
    obtain ⟨d, h1, h2, h3⟩ := k
    have p := (hG.2.2.2 s hs).2.2.2.2.2 d h1
    have py : y < sl v s := by rw [← h3]; exact p.2.2.2.1
    have px : x < sl v s := by rw [← h2]; exact p.2.2.1
    exact ⟨py, ((h.2.2.2.2.2 y py).2.2 x (by omega)).mpr ⟨d, h1, h2, h3⟩⟩
theorem SV_before {κ : jKt} {a : Nat} {v : Nat → Int32} {s x y : Nat} (h : SV κ a v s) (hG : GR v) (hs : s < nn v 1) (hx : x < sl v s) (hy : y < sl v s) : ∃ r, P_X4_comesBefore κ a (oN x) (oN y) = some r ∧ (r = 0 ∨ r = 1) ∧ (r = 1 ↔ rch v s x y) := by
  have h16 := (hG.sl16 hs).1
  obtain ⟨r, r1, r2, r3⟩ := X4_comesBefore (x := x) h.2.2.2.1 h16 (SV_D h hG hs) hy (by omega)
  exact ⟨r, r1, r2, r3.trans (SV_bfr h hG hs x y)⟩
