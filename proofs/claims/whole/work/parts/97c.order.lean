/-! ===== layer 3: the first sewing order as a list; the scan and the model's way lay it ===== -/
noncomputable def pb (p : Prop) : Bool := @decide p (Classical.propDecidable p)
theorem pb_t {p : Prop} : pb p = true ↔ p := @decide_eq_true_iff p (Classical.propDecidable p)
theorem pb_f {p : Prop} : pb p = false ↔ ¬ p := @decide_eq_false_iff_not p (Classical.propDecidable p)
/-- the sleeve l is not done, and all that is demanded ahead of it is -/
noncomputable def fre (E : Nat → Nat → Prop) (S : Nat → Bool) (l : Nat) : Bool := pb (S l = false ∧ ¬ ∃ f, E l f ∧ S f = false)
def nxF (p : Nat → Bool) : Nat → Nat → Option Nat
  | _, 0 => none
  | i, k + 1 => if p i = true then some i else nxF p (i + 1) k
def sb (S : Nat → Bool) (l : Nat) : Nat → Bool := fun j => if j = l then true else S j
noncomputable def ord (n : Nat) (E : Nat → Nat → Prop) : Nat → (Nat → Bool) → List Nat
  | 0, _ => []
  | k + 1, S => match nxF (fre E S) 0 n with
    | none => []
    | some l => l :: ord n E k (sb S l)
theorem nxF_none {p : Nat → Bool} : ∀ (k i : Nat), nxF p i k = none ↔ ∀ l, i ≤ l → l < i + k → p l = false := by
  intro k
  induction k with
  | zero => intro i; exact ⟨fun _ l h1 h2 => by omega, fun _ => rfl⟩
  | succ k ih =>
    intro i
    unfold nxF
    by_cases h : p i = true
    · rw [if_pos h]
      exact ⟨fun g => (by cases g), fun g => by rw [g i (Nat.le_refl _) (by omega)] at h; cases h⟩
    · rw [if_neg h, ih]
      constructor
      · intro g l h1 h2
        by_cases e : l = i
        · rw [e]; cases hp : p i
          · rfl
          · exact absurd hp h
        · exact g l (by omega) (by omega)
      · intro g l h1 h2; exact g l (by omega) (by omega)
theorem nxF_some {p : Nat → Bool} : ∀ (k i t : Nat), nxF p i k = some t ↔ i ≤ t ∧ t < i + k ∧ p t = true ∧ ∀ l, i ≤ l → l < t → p l = false := by
  intro k
  induction k with
  | zero =>
    intro i t
    exact ⟨fun h => (by cases h), fun h => by omega⟩
  | succ k ih =>
    intro i t
    unfold nxF
    by_cases h : p i = true
    · rw [if_pos h]
      constructor
      · intro g; cases g; exact ⟨Nat.le_refl _, by omega, h, fun l h1 h2 => by omega⟩
      · rintro ⟨g1, g2, g3, g4⟩
        by_cases e : t = i
        · rw [e]
        · have := g4 i (Nat.le_refl _) (by omega)
          rw [this] at h; cases h
    · have hf : p i = false := by cases hp : p i
                                  · rfl
                                  · exact absurd hp h
      rw [if_neg h, ih]
      constructor
      · rintro ⟨g1, g2, g3, g4⟩
        refine ⟨by omega, by omega, g3, fun l h1 h2 => ?_⟩
        by_cases e : l = i
        · rw [e]; exact hf
        · exact g4 l (by omega) h2
      · rintro ⟨g1, g2, g3, g4⟩
        have : t ≠ i := fun e => by rw [e, hf] at g3; cases g3
        exact ⟨by omega, by omega, g3, fun l h1 h2 => g4 l (by omega) h2⟩
theorem nxF_skip {p : Nat → Bool} : ∀ (i n : Nat), i ≤ n → (∀ l, l < i → p l = false) → nxF p 0 n = nxF p i (n - i) := by
  intro i n hi h
  cases hx : nxF p i (n - i) with
  | none =>
    rw [nxF_none] at hx ⊢
    intro l _ h2
    by_cases g : l < i
    · exact h l g
    · exact hx l (by omega) (by omega)
  | some t =>
    rw [nxF_some] at hx ⊢
    obtain ⟨a, b, c, d⟩ := hx
    refine ⟨by omega, by omega, c, fun l _ h2 => ?_⟩
    by_cases g : l < i
    · exact h l g
    · exact d l (by omega) h2
theorem cn_c {p q : Nat → Bool} : ∀ n, (∀ l, l < n → p l = q l) → cn p n = cn q n := by
  intro n
  induction n with
  | zero => intro _; rfl
  | succ n ih =>
    intro h
    unfold cn
    rw [ih (fun l hl => h l (by omega)), h n (by omega)]
theorem cn_le (p : Nat → Bool) : ∀ n, cn p n ≤ n := by
  intro n
  induction n with
  | zero => exact Nat.le_refl _
  | succ n ih => unfold cn; split <;> omega
/-- one place turns true -/
theorem cn_add {p q : Nat → Bool} {x : Nat} (hp : p x = false) (hq : q x = true) : ∀ n, x < n → (∀ l, l < n → l ≠ x → p l = q l) → cn q n = cn p n + 1 := by
  intro n
  induction n with
  | zero => intro h; omega
  | succ n ih =>
    intro hx h
    unfold cn
    by_cases e : x = n
    · subst e
      rw [cn_c x (fun l hl => (h l (by omega) (by omega)).symm), hp, hq]
      rfl
    · rw [ih (by omega) (fun l hl hl2 => h l (by omega) hl2), h n (by omega) (by omega)]
      omega
theorem cn_pos {p : Nat → Bool} {x : Nat} (hp : p x = true) : ∀ n, x < n → 1 ≤ cn p n := by
  intro n
  induction n with
  | zero => intro h; omega
  | succ n ih =>
    intro hx
    unfold cn
    by_cases e : x = n
    · subst e; rw [if_pos hp]; omega
    · have := ih (by omega); omega
theorem cn_zero {p : Nat → Bool} : ∀ n, cn p n = 0 ↔ ∀ l, l < n → p l = false := by
  intro n
  constructor
  · intro h l hl
    cases hp : p l
    · rfl
    · have := cn_pos hp n hl; omega
  · intro h
    rcases Nat.eq_zero_or_pos (cn p n) with g | g
    · exact g
    · exfalso
      induction n with
      | zero => unfold cn at g; omega
      | succ n ih =>
        unfold cn at g
        rw [h n (by omega)] at g
        exact ih (fun l hl => h l (by omega)) (by simpa using g)
theorem fre_un {E : Nat → Nat → Prop} {S : Nat → Bool} {l : Nat} (h : fre E S l = true) : S l = false := (pb_t.mp h).1
theorem sb_un {S : Nat → Bool} {l n : Nat} (h : S l = false) (hl : l < n) : cn (fun j => !S j) n = cn (fun j => !sb S l j) n + 1 := by
  refine cn_add (x := l) ?_ ?_ n hl (fun j _ hj => ?_)
  · simp [sb]
  · simp [h]
  · simp [sb, hj]
theorem ord_len {n : Nat} {E : Nat → Nat → Prop} : ∀ (k : Nat) (S : Nat → Bool), (ord n E k S).length ≤ k := by
  intro k
  induction k with
  | zero => intro S; exact Nat.le_refl _
  | succ k ih =>
    intro S
    unfold ord
    cases nxF (fre E S) 0 n with
    | none => exact Nat.zero_le _
    | some l => have := ih (sb S l); simp only [List.length_cons]; omega
theorem ord_lt {n : Nat} {E : Nat → Nat → Prop} : ∀ (k : Nat) (S : Nat → Bool), ∀ x ∈ ord n E k S, x < n := by
  intro k
  induction k with
  | zero => intro S x hx; cases hx
  | succ k ih =>
    intro S x hx
    unfold ord at hx
    cases h : nxF (fre E S) 0 n with
    | none => rw [h] at hx; cases hx
    | some l =>
      rw [h] at hx
      have := (nxF_some n 0 l).mp h
      rcases List.mem_cons.mp hx with e | e
      · omega
      · exact ih _ x e
/-- the places c, c + 1 .. of a row hold the list -/
def lst (h : Nat → Int32) (c : Nat) (L : List Nat) : Prop := ∀ t (ht : t < L.length), h (c + t) = oN (L[t])
theorem lst_cons {h : Nat → Int32} {c x : Nat} {L : List Nat} (h0 : h c = oN x) (h1 : lst h (c + 1) L) : lst h c (x :: L) := by
  intro t ht
  cases t with
  | zero => exact h0
  | succ t =>
    have := h1 t (by simpa using ht)
    rw [show c + (t + 1) = c + 1 + t by omega, this]
    rfl
/-- the class's scan -/
theorem X1_lowestFree {κ : jKt} {a n z : Nat} {S : Int32} {T : Nat → Bool} {E : Nat → Nat → Prop} (hn : kI κ a 3 = oN n) (h16 : n ≤ 16) (hE : ∀ l f, l < n → f < 32 → (bt (sDm κ a l) f = true ↔ E l f)) (hEn : ∀ l f, E l f → f < n) (hS : ∀ j, j < n → bt S j = T j) : P_X1_lowestFree κ z a S = some (match nxF (fre E T) 0 n with | none => -1 | some l => oN l) := by
  have L : ∀ (k i f : Nat), i + k = n → k < f → P_X1_lowestFree_2 κ a S f (oN i) = some (match nxF (fre E T) i k with | none => -1 | some l => oN l) := by
    intro k
    induction k with
    | zero =>
      intro i f h1 h2
      obtain ⟨f, rfl⟩ : ∃ g, f = g + 1 := ⟨f - 1, by omega⟩
      rw [P_X1_lowestFree_2, hn, if_pos ((oN_le (by omega) (by omega)).mpr (by omega))]
      rfl
    | succ k ih =>
      intro i f h1 h2
      obtain ⟨f, rfl⟩ : ∃ g, f = g + 1 := ⟨f - 1, by omega⟩
      have e1 : (oN i + 1 : Int32) = oN (i + 1) := oN_add i 1
      obtain ⟨x, x1, x2⟩ := X4_isHeldBack (κ := κ) (a := a) (l := i) (by omega) S
      rw [P_X1_lowestFree_2, hn, if_neg (fun h => by have := (oN_le (by omega) (by omega)).mp h; omega), X4_contains (by omega), bd_s, e1, nxF]
      by_cases hb : bt S i = true
      · have hf : ¬ fre E T i = true := fun g => by have := fre_un g; rw [← hS i (by omega), hb] at this; cases this
        rw [if_pos hb, if_neg (by decide), if_neg hf]
        exact ih _ _ (by omega) (by omega)
      · have hbf : T i = false := by rw [← hS i (by omega)]; cases h : bt S i
                                     · rfl
                                     · exact absurd h hb
        rw [if_neg hb, if_pos rfl, x1, bd_s]
        have key : (∃ f, f < 32 ∧ bt (sDm κ a i) f = true ∧ bt S f = false) ↔ ∃ f, E i f ∧ T f = false := by
          constructor
          · rintro ⟨f, g1, g2, g3⟩
            have := (hE i f (by omega) g1).mp g2
            exact ⟨f, this, by rw [← hS f (hEn i f this)]; exact g3⟩
          · rintro ⟨f, g1, g2⟩
            have := hEn i f g1
            exact ⟨f, by omega, (hE i f (by omega) (by omega)).mpr g1, by rw [hS f this]; exact g2⟩
        rcases x2 with ⟨y1, y2⟩ | ⟨y1, y2⟩
        · have hf : ¬ fre E T i = true := fun g => (pb_t.mp g).2 (key.mp y2)
          rw [y1, if_neg (by decide), if_neg hf]
          exact ih _ _ (by omega) (by omega)
        · have hf : fre E T i = true := pb_t.mpr ⟨hbf, fun g => y2 (key.mpr g)⟩
          rw [y1, if_pos rfl, if_pos hf]
  exact L n 0 4000 (by omega) (by omega)
section ORDER
variable {ad : Nat → Nat} {κ : jKt} {pr tr : Nat} {pa : Nat → Nat} {su : Nat → Nat → Nat}
/-- what the suit s has in the row v: how many sleeves are not sewn, which are -/
def sew0 (v : Nat → Int32) (s : Nat) : Nat → Bool := fun l => decide (v (101 + 60 * s + l) = 2)
def left0 (v : Nat → Int32) (s : Nat) : Nat := cn (fun l => !sew0 v s l) (sl v s)
noncomputable def ordS (v : Nat → Int32) (s : Nat) : List Nat := ord (sl v s) (dmB v s) (left0 v s) (sew0 v s)
theorem SV.E {κ : jKt} {a : Nat} {v : Nat → Int32} {s : Nat} (h : SV κ a v s) : ∀ l f, l < sl v s → f < 32 → (bt (sDm κ a l) f = true ↔ dmB v s l f) := fun l f hl hf => (h.2.2.2.2.2 l hl).2.2 f hf
theorem GR.E {v : Nat → Int32} (hG : GR v) {s : Nat} (hs : s < nn v 1) : ∀ l f, dmB v s l f → f < sl v s := by
  rintro l f ⟨d, h1, h2, h3⟩
  have := ((hG.2.2.2 s hs).2.2.2.2.2 d h1).2.2.1
  omega
theorem SV.sewn {κ : jKt} {a : Nat} {v : Nat → Int32} {s : Nat} (h : SV κ a v s) (hG : GR v) (hs : s < nn v 1) : ∀ l, l < sl v s → (sSt κ a l = 115 ↔ sew0 v s l = true) := by
  intro l hl
  have h16 := (hG.sl16 hs).1
  unfold sew0
  rw [(h.2.2.2.2.2 l hl).1, ltr_s, decide_eq_true_iff]
  rcases hG.st hs (by omega : l < 16) with e | e | e <;> rw [e] <;> decide
theorem SV.set {κ : jKt} {a : Nat} {v : Nat → Int32} {s : Nat} (h : SV κ a v s) (hG : GR v) (hs : s < nn v 1) : ∃ S, P_X4_sewnSet κ a = some S ∧ ∀ j, j < 32 → bt S j = (decide (j < sl v s) && sew0 v s j) := by
  obtain ⟨S, s1, s2⟩ := X4_sewnSet h.2.2.2.1 (hG.sl16 hs).1
  refine ⟨S, s1, fun j hj => ?_⟩
  rw [s2 j hj]
  by_cases hjs : j < sl v s
  · have := h.sewn hG hs j hjs
    by_cases e : sSt κ a j = 115
    · rw [this.mp e, decide_eq_true e]
    · rw [decide_eq_false e]
      cases h : sew0 v s j
      · rfl
      · exact absurd (this.mpr h) e
  · simp [hjs]
theorem SV.unsewn {κ : jKt} {a : Nat} {v : Nat → Int32} {s : Nat} (h : SV κ a v s) (hG : GR v) (hs : s < nn v 1) : P_X4_unsewnCount κ a = some (oN (left0 v s)) := by
  obtain ⟨S, s1, s2⟩ := h.set hG hs
  have h16 := (hG.sl16 hs).1
  unfold P_X4_unsewnCount
  rw [s1, bd_s, J6_cnt (S := S) (fun j h1 h2 => by rw [s2 j h2, decide_eq_false (by omega), Bool.false_and]), bd_s, h.2.2.2.1]
  rw [cnt_cn s2 (by omega)]
  have hc : ∀ n, cn (sew0 v s) n + cn (fun l => !sew0 v s l) n = n := by
    intro n
    induction n with
    | zero => rfl
    | succ n ih =>
      unfold cn
      cases h : sew0 v s n
      · simp only [Bool.not_false, if_true]; rw [if_neg (by decide)]; omega
      · simp only [Bool.not_true, if_true]; rw [if_neg (by decide)]; omega
  have := hc (sl v s)
  rw [oN_sub (by omega)]
  congr 2
  unfold left0
  omega
theorem X1_scan (hi : ∀ a b, ad a = ad b → a = b) (hP : PT ad κ pr tr pa su) {r k : Nat} (hr : r < 11) (hk : k < 6) {v : Nat → Int32} {s : Nat} (h : SV κ (ad (bR r + 14 + 4 * k)) v s) (hG : GR v) (hs : s < nn v 1) :
    ∃ κ', P_X1_findByScan κ (ad 2) (ad (bR r + 14 + 4 * k)) = some (oN (ordS v s).length, κ') ∧ Fr ad (fun n => n = 3) κ κ' ∧ lst (iS ad κ' 3) 0 (ordS v s) := by
  have h16 := (hG.sl16 hs).1
  obtain ⟨S0, s1, s2⟩ := h.set hG hs
  have hlen : left0 v s ≤ 16 := by have := cn_le (fun l => !sew0 v s l) (sl v s); unfold left0; omega
  have L : ∀ (q f c i : Nat) (κ1 : jKt) (S : Int32) (T : Nat → Bool), Fr ad (fun n => n = 3) κ κ1 → (∀ j, j < sl v s → bt S j = T j) → i + q = left0 v s → c + q ≤ 16 → q < f →
      ∃ κ', P_X1_findByScan_16 (ad 2) (ad (bR r + 14 + 4 * k)) (oN (left0 v s)) f κ1 S (oN c) (oN i) = some (oN (c + (ord (sl v s) (dmB v s) q T).length), κ') ∧ Fr ad (fun n => n = 3) κ κ' ∧ (∀ j, j < c → iS ad κ' 3 j = iS ad κ1 3 j) ∧ lst (iS ad κ' 3) c (ord (sl v s) (dmB v s) q T) := by
    intro q
    induction q with
    | zero =>
      intro f c i κ1 S T hF hS h1 h2 h3
      obtain ⟨f, rfl⟩ : ∃ g, f = g + 1 := ⟨f - 1, by omega⟩
      refine ⟨κ1, ?_, hF, fun _ _ => rfl, fun t ht => by cases ht⟩
      rw [P_X1_findByScan_16, if_pos ((oN_le (by omega) (by omega)).mpr (by omega))]
      rfl
    | succ q ih =>
      intro f c i κ1 S T hF hS h1 h2 h3
      obtain ⟨f, rfl⟩ : ∃ g, f = g + 1 := ⟨f - 1, by omega⟩
      have hv1 : SV κ1 (ad (bR r + 14 + 4 * k)) v s := SV.fr hF hP hr hk (fun i _ => by unfold bR; omega) h
      have hp1 := hF.pt hP
      have e0 : kR κ1 (ad 2) 0 = ad 3 := hp1.2.2.1.1
      have e1 : (oN i + 1 : Int32) = oN (i + 1) := oN_add i 1
      have e2 : (oN c + 1 : Int32) = oN (c + 1) := oN_add c 1
      rw [P_X1_findByScan_16, if_neg (fun h => by have := (oN_le (by omega) (by omega)).mp h; omega), X1_lowestFree hv1.2.2.2.1 h16 hv1.E (hG.E hs) hS, bd_s, ord]
      cases hx : nxF (fre (dmB v s) T) 0 (sl v s) with
      | none =>
        refine ⟨κ1, ?_, hF, fun _ _ => rfl, fun t ht => by cases ht⟩
        simp only [if_true]
        rfl
      | some l =>
        obtain ⟨-, l1, l2, -⟩ := (nxF_some _ _ _).mp hx
        simp only []
        rw [if_neg (fun g => by have := oN_nneg (n := l) (by omega); rw [g] at this; exact this (by decide)), ck_t ((oN_jin (by omega)).mpr (by omega)), oN_ix (by omega), bnd_e, e0, e1, e2]
        have hF2 : Fr ad (fun n => n = 3) κ (kU κ1 (ad 3) c (.int (oN l))) := hF.trans (Fr.U hi (by unfold iSl; omega) rfl)
        obtain ⟨κ', q1, q2, q3, q4⟩ := ih f (c + 1) (i + 1) (kU κ1 (ad 3) c (.int (oN l))) (S ||| (1 <<< (oN l &&& 31))) (sb T l) hF2 (fun j hj => by
          rw [b_or, b_bit (by omega) (by omega), hS j hj]
          unfold sb
          by_cases e : j = l
          · simp [e]
          · simp [e]) (by omega) (by omega) (by omega)
        refine ⟨κ', ?_, q2, fun j hj => ?_, ?_⟩
        · rw [q1]
          simp only [List.length_cons]
          congr 3
          omega
        · rw [q3 j (by omega), iS_U hi, if_neg (by omega)]
        · refine lst_cons ?_ q4
          rw [q3 c (by omega), iS_U hi, if_pos ⟨rfl, rfl⟩]
  obtain ⟨κ', q1, q2, -, q4⟩ := L (left0 v s) 4000 0 0 κ S0 (sew0 v s) (Fr.refl κ) (fun j hj => by rw [s2 j (by omega), decide_eq_true hj, Bool.true_and]) (by omega) (by omega) (by omega)
  refine ⟨κ', ?_, q2, q4⟩
  unfold P_X1_findByScan
  rw [s1, bd_s, h.unsewn hG hs, bd_s]
  rw [Nat.zero_add] at q1
  exact q1
end ORDER
