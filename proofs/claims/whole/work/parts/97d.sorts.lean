/-! ===== layer 3: the model's way to the first sewing order ===== -/
section SORTS
variable {ad : Nat → Nat} {κ : jKt} {pr tr : Nat} {pa : Nat → Nat} {su : Nat → Nat → Nat}
/-- the model's own row of what is done -/
def dnR (ad : Nat → Nat) (κ : jKt) (T : Nat → Bool) : Prop := ∀ l, l < 16 → iS ad κ 26 l = if T l = true then 1 else 0
theorem PT.dn (hP : PT ad κ pr tr pa su) : kR κ (ad 20) 10 = ad 26 := hP.2.2.2.2.1 5 (by omega)
theorem PT.or (hP : PT ad κ pr tr pa su) : kR κ (ad 20) 9 = ad 25 := hP.2.2.2.2.1 4 (by omega)
theorem X7_held (hP : PT ad κ pr tr pa su) {s l : Nat} {T : Nat → Bool} (hG : GR (mv κ (ad 20))) (hs : s < nn (mv κ (ad 20)) 1) (hl : l < 2 ^ 31) (hT : dnR ad κ T) : isB (P_X7_isHeld κ (ad 20) (oN s) (oN l)) (∃ f, dmB (mv κ (ad 20)) s l f ∧ T f = false) := by
  refine isB_c (X7_isHeld hG hs hl) ?_
  have key : ∀ f, dmB (mv κ (ad 20)) s l f → (dn κ (ad 20) f = 0 ↔ T f = false) := by
    intro f hf
    have h16 := (hG.sl16 hs).1
    have := hG.E hs l f hf
    have e : dn κ (ad 20) f = iS ad κ 26 f := by show kI κ (kR κ (ad 20) 10) f = _; rw [hP.dn]; rfl
    rw [e, hT f (by omega)]
    cases T f <;> decide
  constructor
  · rintro ⟨f, h1, h2⟩; exact ⟨f, h1, (key f h1).mp h2⟩
  · rintro ⟨f, h1, h2⟩; exact ⟨f, h1, (key f h1).mpr h2⟩
theorem X7_sorts (hi : ∀ a b, ad a = ad b → a = b) (hP : PT ad κ pr tr pa su) {v : Nat → Int32} {s : Nat} (hv : mv κ (ad 20) = v) (hG : GR v) (hs : s < nn v 1) :
    ∃ κ', P_X7_sorts κ (ad 20) (oN s) = some (oN (ordS v s).length, κ') ∧ Fr ad (fun n => n = 25 ∨ n = 26) κ κ' ∧ lst (iS ad κ' 25) 0 (ordS v s) := by
  have h16 := (hG.sl16 hs).1
  have h6 : s < 6 := by have := hG.2.1.2.2; omega
  have hlen : left0 v s ≤ 16 := by have := cn_le (fun l => !sew0 v s l) (sl v s); unfold left0; omega
  have hFv : ∀ κ1, Fr ad (fun n => n = 25 ∨ n = 26) κ κ1 → mv κ1 (ad 20) = v := fun κ1 hF => by rw [hF.mv hP (by omega)]; exact hv
  have hsl : ∀ κ1, Fr ad (fun n => n = 25 ∨ n = 26) κ κ1 → P_X7_sleeves κ1 (ad 20) (oN s) = some (oN (sl v s)) := by
    intro κ1 hF
    have e := hFv κ1 hF
    have := (X7_sleeves (κ := κ1) (m := ad 20) (s := s) (by rw [e]; exact hG) (by rw [e]; exact hs)).1
    rw [e] at this
    exact this
  -- the search
  have L : ∀ (q j f c i : Nat) (κ1 : jKt) (T : Nat → Bool), Fr ad (fun n => n = 25 ∨ n = 26) κ κ1 → dnR ad κ1 T → cn (fun l => !T l) (sl v s) = q → i + j = sl v s → (∀ l, l < i → fre (dmB v s) T l = false) → c + q ≤ 16 → q * 18 + j < f →
      ∃ κ', P_X7_sorts_48 (ad 20) (oN s) f κ1 (oN c) (oN i) = some (oN (c + (ord (sl v s) (dmB v s) q T).length), κ') ∧ Fr ad (fun n => n = 25 ∨ n = 26) κ κ' ∧ (∀ j, j < c → iS ad κ' 25 j = iS ad κ1 25 j) ∧ lst (iS ad κ' 25) c (ord (sl v s) (dmB v s) q T) := by
    intro q
    induction q with
    | zero =>
      intro j
      induction j with
      | zero =>
        intro f c i κ1 T hF hT hq h1 h2 h3 h4
        obtain ⟨f, rfl⟩ : ∃ g, f = g + 1 := ⟨f - 1, by omega⟩
        refine ⟨κ1, ?_, hF, fun _ _ => rfl, fun t ht => by cases ht⟩
        rw [P_X7_sorts_48, hsl κ1 hF, bd_s, if_pos ((oN_le (by omega) (by omega)).mpr (by omega))]
        rfl
      | succ j ih =>
        intro f c i κ1 T hF hT hq h1 h2 h3 h4
        obtain ⟨f, rfl⟩ : ∃ g, f = g + 1 := ⟨f - 1, by omega⟩
        have hTi : T i = true := by
          have := (cn_zero _).mp hq i (by omega)
          simpa using this
        have e1 : (oN i + 1 : Int32) = oN (i + 1) := oN_add i 1
        obtain ⟨κ', q1, q2⟩ := ih f c (i + 1) κ1 T hF hT hq (by omega) (fun l hl => by
          by_cases e : l = i
          · rw [e]; cases hx : fre (dmB v s) T i
            · rfl
            · have := fre_un hx; rw [hTi] at this; cases this
          · exact h2 l (by omega)) h3 (by omega)
        refine ⟨κ', ?_, q2⟩
        have hd : kI κ1 (kR κ1 (ad 20) 10) i = 1 := by
          rw [(hF.pt hP).dn]
          have := hT i (by omega)
          rw [if_pos hTi] at this
          exact this
        rw [P_X7_sorts_48, hsl κ1 hF, bd_s, if_neg (fun h => by have := (oN_le (by omega) (by omega)).mp h; omega), ck_t ((oN_jin (by omega)).mpr (by omega)), oN_ix (by omega), hd, if_neg (by decide)]
        unfold P_X7_sorts_79 P_X7_sorts_80 P_X7_sorts_104
        rw [if_pos rfl, if_pos rfl, e1]
        exact q1
    | succ q ihq =>
      intro j
      induction j with
      | zero =>
        intro f c i κ1 T hF hT hq h1 h2 h3 h4
        obtain ⟨f, rfl⟩ : ∃ g, f = g + 1 := ⟨f - 1, by omega⟩
        have hn : nxF (fre (dmB v s) T) 0 (sl v s) = none := (nxF_none _ _).mpr (fun l _ hl => h2 l (by omega))
        refine ⟨κ1, ?_, hF, fun _ _ => rfl, fun t ht => ?_⟩
        · rw [P_X7_sorts_48, hsl κ1 hF, bd_s, if_pos ((oN_le (by omega) (by omega)).mpr (by omega)), ord, hn]
          rfl
        · rw [ord, hn] at ht; cases ht
      | succ j ih =>
        intro f c i κ1 T hF hT hq h1 h2 h3 h4
        obtain ⟨f, rfl⟩ : ∃ g, f = g + 1 := ⟨f - 1, by omega⟩
        have e1 : (oN i + 1 : Int32) = oN (i + 1) := oN_add i 1
        have e2 : (oN c + 1 : Int32) = oN (c + 1) := oN_add c 1
        have hp1 := hF.pt hP
        have hd : kI κ1 (kR κ1 (ad 20) 10) i = if T i = true then 1 else 0 := by
          rw [hp1.dn]
          exact hT i (by omega)
        have skip : fre (dmB v s) T i = false → ∃ κ', P_X7_sorts_79 κ1 (ad 20) (oN s) (oN c) (oN i) (P_X7_sorts_48 (ad 20) (oN s) f) = some (oN (c + (ord (sl v s) (dmB v s) (q + 1) T).length), κ') ∧ Fr ad (fun n => n = 25 ∨ n = 26) κ κ' ∧ (∀ j, j < c → iS ad κ' 25 j = iS ad κ1 25 j) ∧ lst (iS ad κ' 25) c (ord (sl v s) (dmB v s) (q + 1) T) := by
          intro hno
          obtain ⟨κ', q1, q2⟩ := ih f c (i + 1) κ1 T hF hT hq (by omega) (fun l hl => by
            by_cases e : l = i
            · rw [e]; exact hno
            · exact h2 l (by omega)) h3 (by omega)
          refine ⟨κ', ?_, q2⟩
          unfold P_X7_sorts_79 P_X7_sorts_80 P_X7_sorts_104
          rw [if_pos rfl, if_pos rfl, e1]
          exact q1
        rw [P_X7_sorts_48, hsl κ1 hF, bd_s, if_neg (fun h => by have := (oN_le (by omega) (by omega)).mp h; omega), ck_t ((oN_jin (by omega)).mpr (by omega)), oN_ix (by omega), hd]
        by_cases hTi : T i = true
        · rw [if_pos hTi, if_neg (by decide)]
          refine skip ?_
          cases hx : fre (dmB v s) T i
          · rfl
          · have := fre_un hx; rw [hTi] at this; cases this
        · have hTf : T i = false := by cases h : T i
                                       · rfl
                                       · exact absurd h hTi
          rw [if_neg hTi, if_pos rfl]
          obtain ⟨x, x1, x2⟩ := X7_held (T := T) (l := i) hp1 (by rw [hFv κ1 hF]; exact hG) (by rw [hFv κ1 hF]; exact hs) (by omega) hT
          rw [hFv κ1 hF] at x2
          rw [x1, bd_s]
          rcases x2 with ⟨y1, y2⟩ | ⟨y1, y2⟩
          · rw [y1, if_neg (by decide)]
            refine skip ?_
            cases hx : fre (dmB v s) T i
            · rfl
            · exact absurd y2 (pb_t.mp hx).2
          · have hfr : fre (dmB v s) T i = true := pb_t.mpr ⟨hTf, y2⟩
            have hnx : nxF (fre (dmB v s) T) 0 (sl v s) = some i := (nxF_some _ _ _).mpr ⟨by omega, by omega, hfr, fun l _ hl => h2 l hl⟩
            have hF2 : Fr ad (fun n => n = 25 ∨ n = 26) κ (kU κ1 (ad 26) i (.int 1)) := hF.trans (Fr.U hi (by unfold iSl; omega) (Or.inr rfl))
            have hF3 : Fr ad (fun n => n = 25 ∨ n = 26) κ (kU (kU κ1 (ad 26) i (.int 1)) (ad 25) c (.int (oN i))) := hF2.trans (Fr.U hi (by unfold iSl; omega) (Or.inl rfl))
            have hun := sb_un hTf (by omega : i < sl v s)
            obtain ⟨κ', q1, q2, q3, q4⟩ := ihq (sl v s) f (c + 1) 0 (kU (kU κ1 (ad 26) i (.int 1)) (ad 25) c (.int (oN i))) (sb T i) hF3 (fun l hl => by
              rw [iS_U hi, if_neg (by omega), iS_U hi]
              unfold sb
              by_cases e : l = i
              · rw [if_pos ⟨rfl, e⟩, if_pos e, if_pos rfl]
              · rw [if_neg (by omega), if_neg e]; exact hT l hl) (by omega) (by omega) (fun l hl => by omega) (by omega) (by omega)
            refine ⟨κ', ?_, q2, fun j hj => ?_, ?_⟩
            · rw [y1, if_pos rfl]
              unfold P_X7_sorts_80 P_X7_sorts_104
              rw [if_neg (by decide), ck_t ((oN_jin (by omega)).mpr (by omega)), oN_ix (by omega), bnd_e, ck_t ((oN_jin (by omega)).mpr (by omega)), oN_ix (by omega), bnd_e, hp1.dn, (hF2.pt hP).or, e2, if_neg (by decide)]
              rw [ord, hnx]
              simp only [List.length_cons]
              rw [show c + ((ord (sl v s) (dmB v s) q (sb T i)).length + 1) = c + 1 + (ord (sl v s) (dmB v s) q (sb T i)).length by omega]
              exact q1
            · rw [q3 j (by omega), iS_U hi, if_neg (by omega), iS_U hi, if_neg (by omega)]
            · rw [ord, hnx]
              refine lst_cons ?_ q4
              rw [q3 c (by omega), iS_U hi, if_pos ⟨rfl, rfl⟩]
  -- the row of what is done is laid first
  have F : ∀ (k i f : Nat) (κ1 : jKt), i + k = 16 → k < f → Fr ad (fun n => n = 25 ∨ n = 26) κ κ1 → (∀ l, l < i → iS ad κ1 26 l = if (if l < sl v s then sew0 v s l else true) = true then 1 else 0) →
      ∃ κ', P_X7_sorts_2 (ad 20) (oN s) f κ1 (oN i) = some (oN (ordS v s).length, κ') ∧ Fr ad (fun n => n = 25 ∨ n = 26) κ κ' ∧ lst (iS ad κ' 25) 0 (ordS v s) := by
    intro k
    induction k with
    | zero =>
      intro i f κ1 h1 h2 hF hD
      obtain ⟨f, rfl⟩ : ∃ g, f = g + 1 := ⟨f - 1, by omega⟩
      have hc : cn (fun l => !(if l < sl v s then sew0 v s l else true)) (sl v s) = left0 v s := cn_c _ (fun l hl => by rw [if_pos hl])
      obtain ⟨κ', q1, q2, -, q4⟩ := L (left0 v s) (sl v s) 4000 0 0 κ1 (fun l => if l < sl v s then sew0 v s l else true) hF (fun l hl => hD l (by omega)) hc (by omega) (fun l hl => by omega) (by omega) (by omega)
      have heq : ord (sl v s) (dmB v s) (left0 v s) (fun l => if l < sl v s then sew0 v s l else true) = ordS v s := by
        unfold ordS
        have : ∀ (q : Nat) (T U : Nat → Bool), (∀ l, l < sl v s → T l = U l) → ord (sl v s) (dmB v s) q T = ord (sl v s) (dmB v s) q U := by
          intro q
          induction q with
          | zero => intro T U _; rfl
          | succ q ih =>
            intro T U hTU
            have hx : ∀ l, l < sl v s → fre (dmB v s) T l = fre (dmB v s) U l := by
              intro l hl
              have : (∃ f, dmB v s l f ∧ T f = false) ↔ (∃ f, dmB v s l f ∧ U f = false) := by
                constructor
                · rintro ⟨f, g1, g2⟩; exact ⟨f, g1, by rw [← hTU f (hG.E hs l f g1)]; exact g2⟩
                · rintro ⟨f, g1, g2⟩; exact ⟨f, g1, by rw [hTU f (hG.E hs l f g1)]; exact g2⟩
              unfold fre
              rw [hTU l hl, this]
            have hN : nxF (fre (dmB v s) T) 0 (sl v s) = nxF (fre (dmB v s) U) 0 (sl v s) := by
              cases hy : nxF (fre (dmB v s) U) 0 (sl v s) with
              | none => rw [nxF_none] at hy ⊢; intro l g1 g2; rw [hx l (by omega)]; exact hy l g1 g2
              | some t =>
                rw [nxF_some] at hy ⊢
                exact ⟨hy.1, hy.2.1, by rw [hx t (by omega)]; exact hy.2.2.1, fun l g1 g2 => by rw [hx l (by omega)]; exact hy.2.2.2 l g1 g2⟩
            rw [ord, ord, hN]
            cases nxF (fre (dmB v s) U) 0 (sl v s) with
            | none => rfl
            | some t =>
              simp only []
              rw [ih (sb T t) (sb U t) (fun l hl => by unfold sb; rw [hTU l hl])]
        exact this _ _ _ (fun l hl => by rw [if_pos hl])
      rw [heq] at q1 q4
      refine ⟨κ', ?_, q2, q4⟩
      rw [P_X7_sorts_2, if_pos (by rw [show (16 : Int32) = oN 16 from rfl]; exact (oN_le (by omega) (by omega)).mpr (by omega))]
      rw [Nat.zero_add] at q1
      exact q1
    | succ k ih =>
      intro i f κ1 h1 h2 hF hD
      obtain ⟨f, rfl⟩ : ∃ g, f = g + 1 := ⟨f - 1, by omega⟩
      have e1 : (oN i + 1 : Int32) = oN (i + 1) := oN_add i 1
      have hp1 := hF.pt hP
      have nxt : ∀ x : Int32, (x = if (if i < sl v s then sew0 v s i else true) = true then 1 else 0) → ∃ κ', P_X7_sorts_2 (ad 20) (oN s) f (kU κ1 (ad 26) i (.int x)) (oN (i + 1)) = some (oN (ordS v s).length, κ') ∧ Fr ad (fun n => n = 25 ∨ n = 26) κ κ' ∧ lst (iS ad κ' 25) 0 (ordS v s) := by
        intro x hx
        refine ih (i + 1) f _ (by omega) (by omega) (hF.trans (Fr.U hi (by unfold iSl; omega) (Or.inr rfl))) (fun l hl => ?_)
        rw [iS_U hi]
        by_cases e : l = i
        · rw [if_pos ⟨rfl, e⟩, e]; exact hx
        · rw [if_neg (by omega)]; exact hD l (by omega)
      rw [P_X7_sorts_2, if_neg (by rw [show (16 : Int32) = oN 16 from rfl]; exact fun h => by have := (oN_le (by omega) (by omega)).mp h; omega), hsl κ1 hF, bd_s, e1]
      by_cases hl : i < sl v s
      · have hst : P_X7_state κ1 (ad 20) (oN s) (oN i) = some (v (101 + 60 * s + i)) := by
          rw [X7_state h6 (by omega), hFv κ1 hF]
        rw [if_neg (fun h => by have := (oN_le (by omega) (by omega)).mp h; omega), hst, bd_s]
        by_cases h2 : v (101 + 60 * s + i) = 2
        · rw [if_pos h2, ck_t ((oN_jin (by omega)).mpr (by omega)), oN_ix (by omega), bnd_e, hp1.dn]
          refine nxt 1 ?_
          unfold sew0
          rw [if_pos hl, decide_eq_true h2, if_pos rfl]
        · rw [if_neg h2, ck_t ((oN_jin (by omega)).mpr (by omega)), oN_ix (by omega), bnd_e, hp1.dn]
          refine nxt 0 ?_
          unfold sew0
          rw [if_pos hl, decide_eq_false h2, if_neg (by decide)]
      · rw [if_pos ((oN_le (by omega) (by omega)).mpr (by omega)), ck_t ((oN_jin (by omega)).mpr (by omega)), oN_ix (by omega), bnd_e, hp1.dn]
        refine nxt 1 ?_
        rw [if_neg hl, if_pos rfl]
  exact F 16 0 4000 κ (by omega) (by omega) (Fr.refl κ) (fun l hl => by omega)
end SORTS
