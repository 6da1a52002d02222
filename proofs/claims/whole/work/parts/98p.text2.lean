/-! ===== layer 3: the order rendered; the whole state ===== -/
def txP (e : Nat → Nat) : Nat → Nat → List Nat
  | _, 0 => []
  | i, k + 1 => (if i = 0 then [] else [44]) ++ (numL (e i) ++ txP e (i + 1) k)
theorem numL_b {x : Nat} (h : x < 79) : ∀ y ∈ numL x, y < 127 := by
  intro y hy
  unfold numL at hy
  split at hy
  · simp only [List.mem_cons, List.not_mem_nil, or_false] at hy; omega
  · simp only [List.mem_cons, List.not_mem_nil, or_false] at hy; omega
theorem txP_b {e : Nat → Nat} (he : ∀ i, e i < 16) : ∀ (k i : Nat), (txP e i k).length ≤ 3 * k ∧ ∀ y ∈ txP e i k, y < 127 := by
  intro k
  induction k with
  | zero => intro i; exact ⟨Nat.le_refl _, fun y hy => by cases hy⟩
  | succ k ih =>
    intro i
    obtain ⟨h1, h2⟩ := ih (i + 1)
    have hn := (numL_len (x := e i)).2
    have hb := numL_b (x := e i) (by have := he i; omega)
    unfold txP
    refine ⟨?_, fun y hy => ?_⟩
    · by_cases z : i = 0
      · rw [if_pos z]; simp only [List.length_append, List.length_nil]; omega
      · rw [if_neg z]; simp only [List.length_append, List.length_cons, List.length_nil]; omega
    · rcases List.mem_append.mp hy with q | q
      · by_cases z : i = 0
        · rw [if_pos z] at q; cases q
        · rw [if_neg z] at q
          simp only [List.mem_cons, List.not_mem_nil, or_false] at q; omega
      · rcases List.mem_append.mp q with q | q
        · exact hb y q
        · exact h2 y q
theorem txS_b {v : Nat → Int32} {s : Nat} (hv : ∀ i, v (101 + 60 * s + i) ≠ 0 → i < 16 → nn v (117 + 60 * s + i) ≤ 60) : ∀ (k i : Nat), i + k ≤ 16 → (txS v s i k).length ≤ 4 * k ∧ ∀ y ∈ txS v s i k, y < 127 := by
  intro k
  induction k with
  | zero => intro i _; exact ⟨Nat.le_refl _, fun y hy => by cases hy⟩
  | succ k ih =>
    intro i hik
    obtain ⟨h1, h2⟩ := ih (i + 1) (by omega)
    have hs := sepS_len i
    have hp := pce_len v s i
    unfold txS
    refine ⟨by simp only [List.length_append]; omega, fun y hy => ?_⟩
    rcases List.mem_append.mp hy with q | q
    · unfold sepS at q
      split at q
      · cases q
      · split at q
        · simp only [List.mem_cons, List.not_mem_nil, or_false] at q; omega
        · simp only [List.mem_cons, List.not_mem_nil, or_false] at q; omega
    · rcases List.mem_append.mp q with q | q
      · unfold pce at q
        split at q
        · simp only [List.mem_cons, List.not_mem_nil, or_false] at q; omega
        · rename_i z
          rcases List.mem_append.mp q with q | q
          · exact numL_b (by have := hv i z (by omega); omega) y q
          · simp only [List.mem_cons, List.not_mem_nil, or_false] at q
            rw [q]; exact ltrN_b _
      · exact h2 y q
def EF (ad : Nat → Nat) (κ : jKt) : Prop := (iS ad κ 0 8 = iS ad κ 20 2 ∧ (iS ad κ 0 8 = -1 ∨ 0 ≤ iS ad κ 0 8)) ∧ iS ad κ 0 9 = iS ad κ 20 3 ∧ (iS ad κ 0 9 = -1 ∨ 0 ≤ iS ad κ 0 9)
def TX (ad : Nat → Nat) (κ : jKt) : Prop := ∃ n, n ≤ 60 ∧ iS ad κ 8 1 = oN n ∧ iS ad κ 20 16 = oN n ∧ ∀ j, j < n → iS ad κ 9 j = iS ad κ 27 j
def OU (ad : Nat → Nat) (κ : jKt) : Prop := ∃ L : List Nat, L.length ≤ 70 ∧ (∀ x ∈ L, x < 127) ∧ CT ad κ L ∧ MT ad κ L
/-- the words of the commands, and where each begins -/
def wdL : List Nat := [98, 117, 121, 32, 99, 117, 115, 116, 111, 109, 101, 114, 32, 102, 105, 116, 32, 115, 117, 105, 116, 32, 99, 117, 116, 32, 115, 101, 119, 32, 117, 110, 112, 105, 99, 107, 32, 111, 114, 100, 101, 114, 32, 100, 101, 108, 105, 118, 101, 114, 32, 115, 99, 114, 97, 112, 32]
def waL : List Nat := [0, 4, 13, 17, 22, 26, 30, 37, 43, 51, 57]
def WD (ad : Nat → Nat) (κ : jKt) : Prop := (∀ j, j < 57 → iS ad κ 30 j = oN (wdL.getD j 0)) ∧ ∀ j, j < 11 → iS ad κ 31 j = oN (waL.getD j 0)
/-- the whole state between two calls -/
def INV (ad : Nat → Nat) (κ : jKt) (K : Nat) : Prop := (∃ v ch ps hs sv, CH ad κ v ch ps hs sv ∧ MH ad κ v ch ps hs sv ∧ GH v ch ps hs sv K) ∧ EF ad κ ∧ TX ad κ ∧ OU ad κ ∧ WD ad κ
/-- what one call of the law comes to: the class's helper, then the model -/
def LSt (ad : Nat → Nat) (K' : Nat) (cl : Option (Int32 × jKt)) (md : jKt → Option (Int32 × jKt)) : Prop :=
  ∃ t κ1 y κ2, cl = some (t, κ1) ∧ md κ1 = some (y, κ2) ∧ kI κ2 (ad 20) 0 = t ∧ (t = 0 → kL κ2 (ad 40) 0 = y.toInt64) ∧ INV ad κ2 K'
/-- the same for what is true or false -/
def LBt (ad : Nat → Nat) (K' : Nat) (cl : Option (Int32 × jKt)) (md : jKt → Option (Int32 × jKt)) : Prop :=
  ∃ t κ1 y κ2, cl = some (t, κ1) ∧ md κ1 = some (y, κ2) ∧ kI κ2 (ad 20) 0 = t ∧ (t = 0 → kL κ2 (ad 40) 0 = if y = 0 then 0 else 1) ∧ INV ad κ2 K'
section STATE
variable {ad : Nat → Nat} {κ κ1 κ2 : jKt} {pr tr : Nat} {pa : Nat → Nat} {su : Nat → Nat → Nat} {v : Nat → Int32} {K ch : Nat} {ps : Nat → Nat → Int32} {hs : Int32} {sv : Nat → Int32}
/-- the class's half hangs on its own cells -/
theorem CH.k (h : CH ad κ v ch ps hs sv) (hG : GH v ch ps hs sv K) (e0 : ∀ j, ¬ (j = 8 ∨ j = 9) → κ1 (ad 0) j = κ (ad 0) j) (e1 : ∀ j, κ1 (ad 1) j = κ (ad 1) j) (eP : ∀ n j, n < 100 → ¬ iSl n j → κ1 (ad n) j = κ (ad n) j) (eR : ∀ n j, 100 ≤ n → κ1 (ad n) j = κ (ad n) j) : CH ad κ1 v ch ps hs sv := by
  obtain ⟨pr, tr, pa, su, ⟨hP, c1, c4, c5, c6, c7, c8⟩, hv, hp, h3, h10⟩ := h
  have keep : ∀ {r : Nat} {w : Nat → Int32}, r < 11 → GR w → RRel (iS ad κ) r (su r) w → RRel (iS ad κ1) r (su r) w := fun hr hw hR => RRel_k hR (fun i h6 => hP.s6 hr h6) hw (fun n j n1 n2 => eR n j (by unfold bR at n1; omega))
  refine ⟨pr, tr, pa, su, ⟨PT_K hP (fun b k hb => ?_), c1, c4, c5, c6, c7, ?_⟩, keep (by omega) hG.1.1 hv, fun i hic => keep (by have := (c4 i (by omega)).1; omega) (hG.2.1 i hic).1 (hp i hic), ?_, fun z => keep (by omega) (hG.2.2 z).1 (h10 z)⟩
  · unfold kR
    by_cases g : b < 100
    · rw [eP b k g hb]
    · rw [eR b k (by omega)]
  · unfold iS kI; rw [e0 5 (by omega)]; exact c8
  · unfold iS kI; rw [e0 3 (by omega)]; exact h3
/-- the readers' view -/
theorem CH.see (h : CH ad κ v ch ps hs sv) (hM : MH ad κ v ch ps hs sv) (hG : GH v ch ps hs sv K) : ∃ pr tr pa su, PS ad κ pr tr pa su v K ∧ ch ≤ 8 := by
  obtain ⟨pr, tr, pa, su, ⟨hP, c1, c4, c5, c6, c7, c8⟩, hv, hp, h3, h10⟩ := h
  exact ⟨pr, tr, pa, su, ⟨hP, by omega, hv, hG.1, hM.1⟩, c7⟩
theorem MH.k (h : MH ad κ v ch ps hs sv) (e : ∀ n j, (21 ≤ n ∧ n ≤ 24) ∨ (n = 20 ∧ (j = 1 ∨ j = 4)) → iS ad κ1 n j = iS ad κ n j) : MH ad κ1 v ch ps hs sv := by
  obtain ⟨m1, m2, m3, m4, m5⟩ := h
  exact ⟨fun j => by rw [e _ _ (by omega)]; exact m1 j, by rw [e _ _ (by omega)]; exact m2, fun i hic j hj => by rw [e _ _ (by omega)]; exact m3 i hic j hj, by rw [e _ _ (by omega)]; exact m4, fun z j hj => by rw [e _ _ (by omega)]; exact m5 z j hj⟩
/-- the slots of the rest -/
def Yf (n j : Nat) : Prop := (n = 0 ∧ (j = 8 ∨ j = 9)) ∨ n = 8 ∨ n = 9 ∨ n = 12 ∨ (n = 20 ∧ (j = 2 ∨ j = 3 ∨ j = 16 ∨ j = 19)) ∨ n = 27 ∨ n = 28 ∨ n = 30 ∨ n = 31
theorem CT.k {L : List Nat} (h : CT ad κ L) (e : ∀ j, iS ad κ1 12 j = iS ad κ 12 j) : CT ad κ1 L := ⟨by rw [e]; exact h.1, fun t ht => by rw [e]; exact h.2 t ht⟩
theorem MT.k {L : List Nat} (h : MT ad κ L) (e : ∀ j, iS ad κ1 28 j = iS ad κ 28 j) (e2 : iS ad κ1 20 19 = iS ad κ 20 19) : MT ad κ1 L := ⟨by rw [e2]; exact h.1, fun t ht => by rw [e]; exact h.2 t ht⟩
theorem EF.k (h : EF ad κ) (e : ∀ n j, Yf n j → iS ad κ1 n j = iS ad κ n j) : EF ad κ1 := by
  unfold EF at h ⊢
  rw [e 0 8 (by unfold Yf; omega), e 20 2 (by unfold Yf; omega), e 0 9 (by unfold Yf; omega), e 20 3 (by unfold Yf; omega)]
  exact h
theorem TX.k (h : TX ad κ) (e : ∀ n j, Yf n j → iS ad κ1 n j = iS ad κ n j) : TX ad κ1 := by
  obtain ⟨n, h1, h2, h3, h4⟩ := h
  exact ⟨n, h1, by rw [e 8 1 (by unfold Yf; omega)]; exact h2, by rw [e 20 16 (by unfold Yf; omega)]; exact h3, fun j hj => by rw [e 9 j (by unfold Yf; omega), e 27 j (by unfold Yf; omega)]; exact h4 j hj⟩
theorem OU.k (h : OU ad κ) (e : ∀ n j, Yf n j → iS ad κ1 n j = iS ad κ n j) : OU ad κ1 := by
  obtain ⟨L, h1, h2, h3, h4⟩ := h
  exact ⟨L, h1, h2, h3.k (fun j => e 12 j (by unfold Yf; omega)), h4.k (fun j => e 28 j (by unfold Yf; omega)) (e 20 19 (by unfold Yf; omega))⟩
theorem WD.k (h : WD ad κ) (e : ∀ n j, Yf n j → iS ad κ1 n j = iS ad κ n j) : WD ad κ1 := ⟨fun j hj => by rw [e 30 j (by unfold Yf; omega)]; exact h.1 j hj, fun j hj => by rw [e 31 j (by unfold Yf; omega)]; exact h.2 j hj⟩
/-- the frame of a reader, and the law's own two cells -/
def ZF2 (ad : Nat → Nat) (κ κ' : jKt) : Prop := ∀ n j, ¬ (Zf n j ∨ n = 40 ∨ n = 41) → κ' (ad n) j = κ (ad n) j
theorem ZF.two (h : ZF ad κ κ1) : ZF2 ad κ κ1 := fun n j a => h n j (fun g => a (Or.inl g))
theorem ZF2.trans (h : ZF2 ad κ κ1) (g : ZF2 ad κ1 κ2) : ZF2 ad κ κ2 := fun n j a => (g n j a).trans (h n j a)
theorem ZF2.U (hi : ∀ a b, ad a = ad b → a = b) {n : Nat} {w : Value} (h : n = 40 ∨ n = 41) : ZF2 ad κ (kU κ (ad n) 0 w) := by
  intro a b h1
  unfold kU
  rw [if_neg (fun g => ?_)]
  have e := hi _ _ g.1
  omega
theorem ZF2.i (h : ZF2 ad κ κ1) {n j : Nat} (hn : ¬ (Zf n j ∨ n = 40 ∨ n = 41)) : iS ad κ1 n j = iS ad κ n j := by
  unfold iS kI
  rw [h n j hn]
theorem Zf2_i {n j : Nat} (h : Zf n j ∨ n = 40 ∨ n = 41) : iSl n j := by
  rcases h with h | h
  · exact Zf_i h
  · exact iSl_21 j (by omega)
theorem PS.zf2 (h : PS ad κ pr tr pa su v K) (z : ZF2 ad κ κ1) : PS ad κ1 pr tr pa su v K := by
  obtain ⟨h1, h2, h3, h4, h5⟩ := h
  refine ⟨PT_K h1 (fun b k hb => ?_), h2, RRel_k h3 (fun i h6 => h1.s6 h2 h6) h4.1 (fun n j n1 n2 => z n j (by unfold Zf; unfold bR at n1; omega)), h4, fun j => by rw [z.i (by unfold Zf; omega)]; exact h5 j⟩
  unfold kR
  rw [z b k (fun g => hb (Zf2_i g))]
/-- slots that no one looks at may change -/
theorem INV.zf (h : INV ad κ K) (z : ZF2 ad κ κ1) : INV ad κ1 K := by
  obtain ⟨⟨v, ch, ps, hs, sv, h1, h2, h3⟩, h4, h5, h6, h7⟩ := h
  have e : ∀ n j, Yf n j → iS ad κ1 n j = iS ad κ n j := fun n j hy => z.i (by unfold Zf; unfold Yf at hy; omega)
  exact ⟨⟨v, ch, ps, hs, sv, h1.k h3 (fun j hj => z 0 j (by unfold Zf; omega)) (fun j => z 1 j (by unfold Zf; omega)) (fun n j _ hs => z n j (fun g => hs (Zf2_i g))) (fun n j hn => z n j (by unfold Zf; omega)), h2.k (fun n j hn => z.i (by unfold Zf; omega)), h3⟩, h4.k e, h5.k e, h6.k e, h7.k e⟩
theorem INV.up {K' : Nat} (h : INV ad κ K) (hk : K ≤ K') : INV ad κ K' := by
  obtain ⟨⟨v, ch, ps, hs, sv, h1, h2, h3⟩, h4⟩ := h
  exact ⟨⟨v, ch, ps, hs, sv, h1, h2, h3.up hk⟩, h4⟩
/-- the answer is laid into the law's cell -/
theorem kL_U (hi : ∀ a b, ad a = ad b → a = b) (κ : jKt) (x : Int64) : kL (kU κ (ad 40) 0 (.long x)) (ad 40) 0 = x := by
  unfold kL kU
  rw [if_pos ⟨rfl, rfl⟩]
theorem kL_z (z : ZF ad κ κ1) : kL κ1 (ad 40) 0 = kL κ (ad 40) 0 := by
  unfold kL
  rw [z 40 0 (by unfold Zf; omega)]
/-- a reader whose class side changes nothing: class and model give one answer -/
theorem LS_read (hi : ∀ a b, ad a = ad b → a = b) (hI : INV ad κ K) (hp : PS ad κ pr tr pa su v K) {r : rI} {cl : Option (Int32 × jKt)} {md : jKt → Option (Int32 × jKt)} (z : ZF ad κ κ1)
    (hcl : match r with | .error (_, t) => cl = some (t, κ1) ∧ t ≠ 0 | .ok y => cl = some (0, kU κ1 (ad 40) 0 (.long y.toInt64)))
    (hmd : ∀ κ2, PS ad κ2 pr tr pa su v K → rM ad κ2 r (md κ2)) : LSt ad K cl md := by
  cases r with
  | error p =>
    obtain ⟨E, t⟩ := p
    obtain ⟨y, κ3, a1, a2, a3⟩ := hmd κ1 (hp.zf z)
    exact ⟨t, κ1, y, κ3, hcl.1, a1, a3, fun q => absurd q hcl.2, hI.zf (z.trans a2).two⟩
  | ok x =>
    have z1 : ZF2 ad κ1 (kU κ1 (ad 40) 0 (.long x.toInt64)) := ZF2.U hi (Or.inl rfl)
    obtain ⟨y, κ3, a1, a2, a3, a4⟩ := hmd (kU κ1 (ad 40) 0 (.long x.toInt64)) ((hp.zf z).zf2 z1)
    refine ⟨0, _, y, κ3, hcl, a1, a4, fun _ => ?_, hI.zf ((z.two.trans z1).trans a2.two)⟩
    rw [kL_z a2, kL_U hi, a3]
/-- .. for what is true or false -/
theorem LB_read (hi : ∀ a b, ad a = ad b → a = b) (hI : INV ad κ K) (hp : PS ad κ pr tr pa su v K) {r : rI} {cl : Option (Int32 × jKt)} {md : jKt → Option (Int32 × jKt)} (z : ZF ad κ κ1)
    (hcl : match r with | .error (_, t) => cl = some (t, κ1) ∧ t ≠ 0 | .ok y => cl = some (0, kU κ1 (ad 40) 0 (.long (if y = 0 then 0 else 1))))
    (hmd : ∀ κ2, PS ad κ2 pr tr pa su v K → rM ad κ2 r (md κ2)) : LBt ad K cl md := by
  cases r with
  | error p =>
    obtain ⟨E, t⟩ := p
    obtain ⟨y, κ3, a1, a2, a3⟩ := hmd κ1 (hp.zf z)
    exact ⟨t, κ1, y, κ3, hcl.1, a1, a3, fun q => absurd q hcl.2, hI.zf (z.trans a2).two⟩
  | ok x =>
    have z1 : ZF2 ad κ1 (kU κ1 (ad 40) 0 (.long (if x = 0 then 0 else 1))) := ZF2.U hi (Or.inl rfl)
    obtain ⟨y, κ3, a1, a2, a3, a4⟩ := hmd (kU κ1 (ad 40) 0 (.long (if x = 0 then 0 else 1))) ((hp.zf z).zf2 z1)
    refine ⟨0, _, y, κ3, hcl, a1, a4, fun _ => ?_, hI.zf ((z.two.trans z1).trans a2.two)⟩
    rw [kL_z a2, kL_U hi, a3]
end STATE
