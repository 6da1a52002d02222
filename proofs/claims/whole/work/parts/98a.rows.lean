/-! ===== layer 3: rows of the model: what hangs on which places ===== -/
def ud (v : Nat → Int32) (i : Nat) (x : Int32) : Nat → Int32 := fun j => if j = i then x else v j
theorem ud_e (v : Nat → Int32) (i : Nat) (x : Int32) : ud v i x i = x := if_pos rfl
theorem ud_n {v : Nat → Int32} {i j : Nat} {x : Int32} (h : j ≠ i) : ud v i x j = v j := if_neg h
theorem nn_c {v v' : Nat → Int32} {i i' : Nat} (e : v' i' = v i) : nn v' i' = nn v i := by unfold nn; rw [e]
theorem isN_c {v v' : Nat → Int32} {i i' lo hi : Nat} (e : v' i' = v i) (h : isN v i lo hi) : isN v' i' lo hi := by
  unfold isN at h ⊢
  rw [nn_c e, e]
  exact h
theorem isN_n {v : Nat → Int32} {i lo hi n : Nat} (e : v i = oN n) (h1 : lo ≤ n) (h2 : n ≤ hi) (h3 : n < 2 ^ 31) : isN v i lo hi := by
  have : nn v i = n := by unfold nn; rw [e, oN_ix h3]
  unfold isN
  rw [this]
  exact ⟨e, h1, h2⟩
theorem nn_n {v : Nat → Int32} {i n : Nat} (e : v i = oN n) (h3 : n < 2 ^ 31) : nn v i = n := by unfold nn; rw [e, oN_ix h3]
/-- a number between two bounds -/
theorem in_n {x : Int32} {lo hi : Nat} (h1 : oN lo ≤ x) (h2 : x ≤ oN hi) (hh : hi < 2 ^ 31) (hl : lo ≤ hi) : ∃ n, x = oN n ∧ lo ≤ n ∧ n ≤ hi := by
  have h0 : (0 : Int32) ≤ x := Int32.le_trans (by rw [show (0 : Int32) = oN 0 from rfl]; exact (oN_le (by omega) (by omega)).mpr (by omega)) h1
  obtain ⟨n, n1, n2⟩ := oN_of h0
  rw [n2] at h1 h2
  exact ⟨n, n2, (oN_le (by omega) (by omega)).mp h1, (oN_le (by omega) (by omega)).mp h2⟩
def GC (v : Nat → Int32) (c : Nat) : Prop := isN v (12 + 17 * c) 1 8 ∧ ∀ l, l < 2 * nn v (12 + 17 * c) → isN v (13 + 17 * c + l) 10 60
def GS (v : Nat → Int32) (s : Nat) : Prop := isN v (98 + 60 * s) 0 4 ∧ nn v (98 + 60 * s) < nn v 0 ∧ isN v (99 + 60 * s) 0 3 ∧ isN v (100 + 60 * s) 0 12 ∧
    (∀ l, l < 16 → isN v (101 + 60 * s + l) 0 2 ∧ (v (101 + 60 * s + l) ≠ 0 → isN v (117 + 60 * s + l) 10 60)) ∧
    (∀ d, d < nn v (100 + 60 * s) → isN v (133 + 60 * s + 2 * d) 0 15 ∧ isN v (134 + 60 * s + 2 * d) 0 15 ∧ nn v (133 + 60 * s + 2 * d) < sl v s ∧ nn v (134 + 60 * s + 2 * d) < sl v s ∧ nn v (133 + 60 * s + 2 * d) ≠ nn v (134 + 60 * s + 2 * d))
theorem GR_iff {v : Nat → Int32} : GR v ↔ isN v 0 0 5 ∧ isN v 1 0 6 ∧ (∀ c, c < nn v 0 → GC v c) ∧ ∀ s, s < nn v 1 → GS v s := Iff.rfl
/-- the suit t of v' is the suit s of v -/
def TS (v : Nat → Int32) (s : Nat) (v' : Nat → Int32) (t : Nat) : Prop := (∀ k, k < 60 → v' (97 + 60 * t + k) = v (97 + 60 * s + k)) ∧ v' (12 + 17 * nn v (98 + 60 * s)) = v (12 + 17 * nn v (98 + 60 * s))
theorem TS.g {v v' : Nat → Int32} {s t : Nat} (h : TS v s v' t) {i j : Nat} (k : Nat) (hi : i = 97 + 60 * t + k) (hj : j = 97 + 60 * s + k) (hk : k < 60) : v' i = v j := by
  rw [hi, hj]; exact h.1 k hk
theorem TS_sl {v v' : Nat → Int32} {s t : Nat} (h : TS v s v' t) : sl v' t = sl v s := by
  unfold sl
  rw [nn_c (h.g 1 (by omega) (by omega) (by omega) : v' (98 + 60 * t) = v (98 + 60 * s)), nn_c h.2]
theorem TS.dm {v v' : Nat → Int32} {s t : Nat} (h : TS v s v' t) (h12 : nn v (100 + 60 * s) ≤ 12) (l f : Nat) : dmB v' t l f ↔ dmB v s l f := by
  have e : nn v' (100 + 60 * t) = nn v (100 + 60 * s) := nn_c (h.g 3 (by omega) (by omega) (by omega))
  unfold dmB
  rw [e]
  constructor
  · rintro ⟨d, h1, h2, h3⟩
    exact ⟨d, h1, by rw [← h2]; exact (nn_c (h.g (36 + 2 * d) (by omega) (by omega) (by omega))).symm, by rw [← h3]; exact (nn_c (h.g (37 + 2 * d) (by omega) (by omega) (by omega))).symm⟩
  · rintro ⟨d, h1, h2, h3⟩
    exact ⟨d, h1, by rw [← h2]; exact nn_c (h.g (36 + 2 * d) (by omega) (by omega) (by omega)), by rw [← h3]; exact nn_c (h.g (37 + 2 * d) (by omega) (by omega) (by omega))⟩
theorem TS.rc {v v' : Nat → Int32} {s t : Nat} (h : TS v s v' t) (h12 : nn v (100 + 60 * s) ≤ 12) (f l : Nat) : rch v' t f l ↔ rch v s f l :=
  ⟨fun g => tg_mono (fun a b k => (h.dm h12 b a).mp k) g, fun g => tg_mono (fun a b k => (h.dm h12 b a).mpr k) g⟩
theorem GS_c {v v' : Nat → Int32} {s t : Nat} (h : TS v s v' t) (h0 : nn v 0 ≤ nn v' 0) (g : GS v s) : GS v' t := by
  obtain ⟨g1, g2, g3, g4, g5, g6⟩ := g
  have e98 : v' (98 + 60 * t) = v (98 + 60 * s) := h.g 1 (by omega) (by omega) (by omega)
  have e99 : v' (99 + 60 * t) = v (99 + 60 * s) := h.g 2 (by omega) (by omega) (by omega)
  have e100 : v' (100 + 60 * t) = v (100 + 60 * s) := h.g 3 (by omega) (by omega) (by omega)
  have h12 := g4.2.2
  refine ⟨isN_c e98 g1, ?_, isN_c e99 g3, isN_c e100 g4, fun l hl => ?_, fun d hd => ?_⟩
  · rw [nn_c e98]; omega
  · have e1 : v' (101 + 60 * t + l) = v (101 + 60 * s + l) := h.g (4 + l) (by omega) (by omega) (by omega)
    have e2 : v' (117 + 60 * t + l) = v (117 + 60 * s + l) := h.g (20 + l) (by omega) (by omega) (by omega)
    refine ⟨isN_c e1 (g5 l hl).1, fun hp => isN_c e2 ((g5 l hl).2 (by rw [← e1]; exact hp))⟩
  · rw [nn_c e100] at hd
    have e1 : v' (133 + 60 * t + 2 * d) = v (133 + 60 * s + 2 * d) := h.g (36 + 2 * d) (by omega) (by omega) (by omega)
    have e2 : v' (134 + 60 * t + 2 * d) = v (134 + 60 * s + 2 * d) := h.g (37 + 2 * d) (by omega) (by omega) (by omega)
    obtain ⟨p1, p2, p3, p4, p5⟩ := g6 d hd
    rw [nn_c e1, nn_c e2, (TS_sl h)]
    exact ⟨isN_c e1 p1, isN_c e2 p2, p3, p4, p5⟩
theorem GC_c {v v' : Nat → Int32} {c : Nat} (h : ∀ k, k < 17 → v' (12 + 17 * c + k) = v (12 + 17 * c + k)) (g : GC v c) : GC v' c := by
  have e : v' (12 + 17 * c) = v (12 + 17 * c) := h 0 (by omega)
  refine ⟨isN_c e g.1, fun l hl => ?_⟩
  rw [nn_c e] at hl
  have h8 := g.1.2.2
  refine isN_c ?_ (g.2 l hl)
  have := h (1 + l) (by omega)
  rw [show 12 + 17 * c + (1 + l) = 13 + 17 * c + l by omega] at this
  exact this
/-- what else holds of a suit: its number is an old one; no sleeve is ahead of itself; what is sewn has what it demands -/
def SX (v : Nat → Int32) (s : Nat) : Prop := v (97 + 60 * s) = oN (nn v (97 + 60 * s)) ∧ nn v (97 + 60 * s) < nn v 2 ∧ (∀ l, ¬ rch v s l l) ∧ ∀ l f, dmB v s l f → v (101 + 60 * s + l) = 2 → v (101 + 60 * s + f) = 2
theorem SX_c {v v' : Nat → Int32} {s t : Nat} (h : TS v s v' t) (h2 : nn v 2 ≤ nn v' 2) (gs : GS v s) (g : SX v s) : SX v' t := by
  obtain ⟨g1, g2, g3, g4⟩ := g
  have e97 : v' (97 + 60 * t) = v (97 + 60 * s) := h.g 0 (by omega) (by omega) (by omega)
  have h12 := gs.2.2.2.1.2.2
  refine ⟨by rw [nn_c e97, e97]; exact g1, by rw [nn_c e97]; omega, fun l hl => g3 l ((h.rc h12 l l).mp hl), fun l f hd hl => ?_⟩
  have hd' := (h.dm h12 l f).mp hd
  obtain ⟨d, d1, d2, d3⟩ := hd'
  obtain ⟨p1, p2, p3, p4, p5⟩ := gs.2.2.2.2.2 d d1
  have hl16 : l < 16 := by have := p2.2.2; omega
  have hf16 : f < 16 := by have := p1.2.2; omega
  have e1 : v' (101 + 60 * t + l) = v (101 + 60 * s + l) := h.g (4 + l) (by omega) (by omega) (by omega)
  have e2 : v' (101 + 60 * t + f) = v (101 + 60 * s + f) := h.g (4 + f) (by omega) (by omega) (by omega)
  rw [e2]
  exact g4 l f ((h.dm h12 l f).mp hd) (by rw [← e1]; exact hl)
/-- all that holds of the model's row; its next number is at most K -/
def GX (v : Nat → Int32) (K : Nat) : Prop := GR v ∧ (∀ c, c < 4 → isN v (8 + c) 0 2000) ∧ (v 2 = oN (nn v 2) ∧ nn v 2 ≤ K) ∧ (∀ s, s < nn v 1 → SX v s) ∧ ∀ s t, s < t → t < nn v 1 → v (97 + 60 * s) ≠ v (97 + 60 * t)
theorem GX.up {v : Nat → Int32} {K K' : Nat} (h : GX v K) (hk : K ≤ K') : GX v K' := ⟨h.1, h.2.1, ⟨h.2.2.1.1, Nat.le_trans h.2.2.1.2 hk⟩, h.2.2.2⟩
theorem CRel_c {S S' : Nat → Nat → Int32} {n n' : Nat} {v v' : Nat → Int32} {c : Nat} (hS : ∀ i, i < 2 → ∀ j, S' (n' + i) j = S (n + i) j) (h : ∀ k, k < 17 → v' (12 + 17 * c + k) = v (12 + 17 * c + k)) (g : GC v c) (hC : CRel S n v c) : CRel S' n' v' c := by
  have e : v' (12 + 17 * c) = v (12 + 17 * c) := h 0 (by omega)
  have h8 := g.1.2.2
  refine ⟨?_, fun l hl => ?_⟩
  · have := hS 0 (by omega) 0
    rw [Nat.add_zero, Nat.add_zero] at this
    rw [this, nn_c e]; exact hC.1
  · rw [nn_c e] at hl
    have := h (1 + l) (by omega)
    rw [show 12 + 17 * c + (1 + l) = 13 + 17 * c + l by omega] at this
    rw [hS 1 (by omega), this]
    exact hC.2 l hl
theorem SRel_c {S S' : Nat → Nat → Int32} {n n' : Nat} {v v' : Nat → Int32} {s t : Nat} (hS : ∀ i, i < 4 → ∀ j, S' (n' + i) j = S (n + i) j) (h : TS v s v' t) (g : GS v s) (h16 : sl v s ≤ 16) (hC : SRel S n v s) : SRel S' n' v' t := by
  obtain ⟨s1, s2, s3, s4, s5, s6⟩ := hC
  have q0 : ∀ j, S' n' j = S n j := fun j => hS 0 (by omega) j
  have e97 : v' (97 + 60 * t) = v (97 + 60 * s) := h.g 0 (by omega) (by omega) (by omega)
  have e98 : v' (98 + 60 * t) = v (98 + 60 * s) := h.g 1 (by omega) (by omega) (by omega)
  have e99 : v' (99 + 60 * t) = v (99 + 60 * s) := h.g 2 (by omega) (by omega) (by omega)
  have e100 : v' (100 + 60 * t) = v (100 + 60 * s) := h.g 3 (by omega) (by omega) (by omega)
  refine ⟨by rw [q0, e97]; exact s1, by rw [q0, e98]; exact s2, by rw [q0, e99]; exact s3, by rw [q0, (TS_sl h)]; exact s4, by rw [q0, e100]; exact s5, fun l hl => ?_⟩
  rw [TS_sl h] at hl
  obtain ⟨t1, t2, t3⟩ := s6 l hl
  have e1 : v' (101 + 60 * t + l) = v (101 + 60 * s + l) := h.g (4 + l) (by omega) (by omega) (by omega)
  have e2 : v' (117 + 60 * t + l) = v (117 + 60 * s + l) := h.g (20 + l) (by omega) (by omega) (by omega)
  refine ⟨by rw [hS 1 (by omega), e1]; exact t1, fun hp => by rw [hS 2 (by omega), e2]; exact t2 (by rw [← e1]; exact hp), fun f hf => ?_⟩
  rw [hS 3 (by omega), h.dm g.2.2.2.1.2.2]
  exact t3 f hf
theorem TS.refl (v : Nat → Int32) (s : Nat) : TS v s v s := ⟨fun _ _ => rfl, rfl⟩
/-! ===== layer 3: the changes of the row ===== -/
abbrev oR : Type := Except Int32 (Int32 × (Nat → Int32))
noncomputable def o0 (v : Nat → Int32) (c n : Int32) : oR :=
  if ¬ (0 ≤ c ∧ c ≤ 3) then .error (-2) else if ¬ (1 ≤ n ∧ n ≤ 999) then .error (-3) else if v (8 + ix c) + n ≤ 2000 then .ok (v (8 + ix c) + n, ud (ud v (8 + ix c) (v (8 + ix c) + n)) 3 (v 3 + n)) else .error (-5)
noncomputable def o1 (v : Nat → Int32) (p n : Int32) : oR :=
  if ¬ (1 ≤ p ∧ p ≤ 8) then .error (-3) else if ¬ (10 ≤ n ∧ n ≤ 60) then .error (-3) else if v 0 = 5 then .error (-4) else
    .ok (v 0, fun j => if j = 0 then v 0 + 1 else if j = 12 + 17 * nn v 0 then p else if 13 + 17 * nn v 0 ≤ j ∧ j < 29 + 17 * nn v 0 then (if j < 13 + 17 * nn v 0 + 2 * ix p then n else 0) else v j)
noncomputable def o2 (v : Nat → Int32) (c l n : Int32) : oR :=
  if ¬ (0 ≤ c ∧ c < v 0 ∧ 0 ≤ l ∧ l < 2 * v (12 + 17 * ix c)) then .error (-2) else if ¬ (10 ≤ n ∧ n ≤ 60) then .error (-3) else .ok (v (13 + 17 * ix c + ix l), ud v (13 + 17 * ix c + ix l) n)
noncomputable def o3 (v : Nat → Int32) (c k : Int32) : oR :=
  if ¬ (0 ≤ c ∧ c < v 0) then .error (-2) else if ¬ (0 ≤ k ∧ k ≤ 3) then .error (-2) else if v 1 = 6 then .error (-4) else
    .ok (v 2, fun j => if j = 1 then v 1 + 1 else if j = 2 then v 2 + 1 else if 97 + 60 * nn v 1 ≤ j ∧ j < 157 + 60 * nn v 1 then (if j = 97 + 60 * nn v 1 then v 2 else if j = 98 + 60 * nn v 1 then c else if j = 99 + 60 * nn v 1 then k else 0) else v j)
/-- a change of the suit with the number id -/
noncomputable def oS (v : Nat → Int32) (id : Int32) (g : Nat → oR) : oR := match fd v id with
  | none => .error (-1)
  | some s => g s
noncomputable def o4 (v : Nat → Int32) (id l : Int32) : oR := oS v id fun s =>
  if ¬ (0 ≤ l ∧ l < oN (sl v s)) then .error (-2) else if v (101 + 60 * s + ix l) ≠ 0 then .error (-4) else
    if v (13 + 17 * nn v (98 + 60 * s) + ix l) + 2 ≤ v (8 + nn v (99 + 60 * s)) then
      .ok (v (8 + nn v (99 + 60 * s)) - (v (13 + 17 * nn v (98 + 60 * s) + ix l) + 2), ud (ud (ud v (8 + nn v (99 + 60 * s)) (v (8 + nn v (99 + 60 * s)) - (v (13 + 17 * nn v (98 + 60 * s) + ix l) + 2))) (101 + 60 * s + ix l) 1) (117 + 60 * s + ix l) (v (13 + 17 * nn v (98 + 60 * s) + ix l)))
    else .error (-5)
noncomputable def o5 (v : Nat → Int32) (id l : Int32) : oR := oS v id fun s =>
  if ¬ (0 ≤ l ∧ l < oN (sl v s)) then .error (-2) else if v (101 + 60 * s + ix l) ≠ 1 then .error (-4) else
    if pb (∃ f, dmB v s (ix l) f ∧ v (101 + 60 * s + f) ≠ 2) = true then .error (-5) else
      .ok (sm (fun j => if ud v (101 + 60 * s + ix l) 2 (101 + 60 * s + j) = 2 then 1 else 0) 0 (sl v s) 0, ud v (101 + 60 * s + ix l) 2)
noncomputable def o6 (v : Nat → Int32) (id l : Int32) : oR := oS v id fun s =>
  if ¬ (0 ≤ l ∧ l < oN (sl v s)) then .error (-2) else if v (101 + 60 * s + ix l) = 0 then .error (-4) else
    if pb (∃ f, dmB v s f (ix l) ∧ v (101 + 60 * s + f) = 2) = true then .error (-5) else
      .ok (v (117 + 60 * s + ix l) + 2, ud (ud (ud v (101 + 60 * s + ix l) 0) (117 + 60 * s + ix l) 0) 4 (v 4 + (v (117 + 60 * s + ix l) + 2)))
noncomputable def o7 (v : Nat → Int32) (id a b : Int32) : oR := oS v id fun s =>
  if ¬ (0 ≤ a ∧ a < oN (sl v s)) then .error (-2) else if ¬ (0 ≤ b ∧ b < oN (sl v s)) then .error (-2) else if a = b then .error (-3) else
    if pb (dmB v s (ix b) (ix a)) = true ∨ v (100 + 60 * s) = 12 ∨ (v (101 + 60 * s + ix b) = 2 ∧ v (101 + 60 * s + ix a) ≠ 2) then .error (-4) else
    if pb (rch v s (ix b) (ix a)) = true then .error (-5) else
      .ok (v (100 + 60 * s) + 1, ud (ud (ud v (133 + 60 * s + 2 * nn v (100 + 60 * s)) a) (134 + 60 * s + 2 * nn v (100 + 60 * s)) b) (100 + 60 * s) (v (100 + 60 * s) + 1))
def clo (v : Nat → Int32) (s : Nat) : Int32 := sm (fun l => if v (101 + 60 * s + l) = 0 then 0 else v (117 + 60 * s + l) + 2) 0 (sl v s) 0
def wor (v : Nat → Int32) (s : Nat) : Int32 := sm (fun l => if v (101 + 60 * s + l) = 0 then v (13 + 17 * nn v (98 + 60 * s) + l) else v (117 + 60 * s + l)) 0 (sl v s) (3 * v (100 + 60 * s))
/-- is the suit due -/
def dueP (v : Nat → Int32) (s : Nat) : Prop := (∀ l, l < sl v s → v (101 + 60 * s + l) = 2 ∧ v (117 + 60 * s + l) = v (13 + 17 * nn v (98 + 60 * s) + l)) ∧
    ∀ u, u < nn v (12 + 17 * nn v (98 + 60 * s)) → ¬ 1 < v (117 + 60 * s + 2 * u) - v (117 + 60 * s + (2 * u + 1)) ∧ ¬ 1 < v (117 + 60 * s + (2 * u + 1)) - v (117 + 60 * s + 2 * u)
/-- the suit s goes, those behind it move up -/
def rem (v : Nat → Int32) (s : Nat) : Nat → Int32 := fun j => if j = 1 then v 1 - 1 else if 97 + 60 * s ≤ j ∧ j < 457 then (if j + 60 < 457 then v (j + 60) else 0) else v j
noncomputable def o8 (v : Nat → Int32) (id : Int32) : oR := oS v id fun s =>
  if pb (dueP v s) = true then .ok (wor v s, rem (ud (ud (ud v 5 (v 5 + clo v s)) 6 (v 6 + wor v s)) 7 (v 7 + 1)) s) else .error (-4)
noncomputable def o9 (v : Nat → Int32) (id : Int32) : oR := oS v id fun s => .ok (clo v s, rem (ud v 4 (v 4 + clo v s)) s)
/-- the change of kind k -/
noncomputable def oK (k : Nat) (v : Nat → Int32) (a b c : Int32) : oR := match k with
  | 0 => o0 v a b
  | 1 => o1 v a b
  | 2 => o2 v a b c
  | 3 => o3 v a b
  | 4 => o4 v a b
  | 5 => o5 v a b
  | 6 => o6 v a b
  | 7 => o7 v a b c
  | 8 => o8 v a
  | _ => o9 v a
/-- the number that the model says is thrown -/
def thk (k : Nat) (e : Int32) : Int32 := match k with
  | 0 => if e = -2 then 1 else if e = -3 then 2 else 3
  | 1 => if e = -3 then 1 else 2
  | 2 => if e = -2 then 1 else 2
  | 3 => if e = -2 then 1 else 2
  | 7 => if e = -1 then 1 else if e = -2 then 2 else if e = -3 then 3 else if e = -4 then 4 else 5
  | 8 => if e = -1 then 1 else 2
  | 9 => 1
  | _ => if e = -1 then 1 else if e = -2 then 2 else if e = -4 then 3 else 4
