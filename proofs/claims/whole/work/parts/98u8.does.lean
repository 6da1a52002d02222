/-! ===== layer 3: the model does one command ===== -/
theorem bd2_eta {α β : Type} (x : Option (α × β)) : bd2 x (fun a b => some (a, b)) = x := by
  cases x with
  | none => rfl
  | some p => rfl
section DOES
variable {ad : Nat → Nat} {κ κ1 κ2 : jKt} {pr tr : Nat} {pa : Nat → Nat} {su : Nat → Nat → Nat} {v : Nat → Int32}
theorem m_does (hi : ∀ a b, ad a = ad b → a = b) (hP : PT ad κ pr tr pa su) (hv : ∀ j, iS ad κ 21 j = v j) {K : Nat} (hX : GX v K) {k : Nat} (hk : k < 10) (a b c : Int32) : ∃ r κ', P_X7_does κ (ad 20) (oN k) a b c = some (r, κ') ∧ MO ad κ κ' k v (oK k v a b c) r := by
  unfold P_X7_does
  simp only [bd2_eta]
  match k, hk with
  | 0, _ => obtain ⟨r, κ', h1, h2⟩ := M0 hi hP hv a b; exact ⟨r, κ', by rw [if_pos (by decide)]; exact h1, h2⟩
  | 1, _ => obtain ⟨r, κ', h1, h2⟩ := M1 hi hP hv hX.1 a b; exact ⟨r, κ', by rw [if_neg (by decide), if_pos (by decide)]; exact h1, h2⟩
  | 2, _ => obtain ⟨r, κ', h1, h2⟩ := M2 hi hP hv hX.1 a b c; exact ⟨r, κ', by rw [if_neg (by decide), if_neg (by decide), if_pos (by decide)]; exact h1, h2⟩
  | 3, _ => obtain ⟨r, κ', h1, h2⟩ := M3 hi hP hv hX.1 a b; exact ⟨r, κ', by rw [if_neg (by decide), if_neg (by decide), if_neg (by decide), if_pos (by decide)]; exact h1, h2⟩
  | 4, _ => obtain ⟨r, κ', h1, h2⟩ := M4 hi hP hv hX.1 a b; exact ⟨r, κ', by rw [if_neg (by decide), if_neg (by decide), if_neg (by decide), if_neg (by decide), if_pos (by decide)]; exact h1, h2⟩
  | 5, _ => obtain ⟨r, κ', h1, h2⟩ := M5 hi hP hv hX a b; exact ⟨r, κ', by rw [if_neg (by decide), if_neg (by decide), if_neg (by decide), if_neg (by decide), if_neg (by decide), if_pos (by decide)]; exact h1, h2⟩
  | 6, _ => obtain ⟨r, κ', h1, h2⟩ := M6 hi hP hv hX.1 a b; exact ⟨r, κ', by rw [if_neg (by decide), if_neg (by decide), if_neg (by decide), if_neg (by decide), if_neg (by decide), if_neg (by decide), if_pos (by decide)]; exact h1, h2⟩
  | 7, _ => obtain ⟨r, κ', h1, h2⟩ := M7 hi hP hv hX.1 a b c; exact ⟨r, κ', by rw [if_neg (by decide), if_neg (by decide), if_neg (by decide), if_neg (by decide), if_neg (by decide), if_neg (by decide), if_neg (by decide), if_pos (by decide)]; exact h1, h2⟩
  | 8, _ => obtain ⟨r, κ', h1, h2⟩ := M8 hi hP hv hX.1 a; exact ⟨r, κ', by rw [if_neg (by decide), if_neg (by decide), if_neg (by decide), if_neg (by decide), if_neg (by decide), if_neg (by decide), if_neg (by decide), if_neg (by decide), if_pos (by decide)]; exact h1, h2⟩
  | 9, _ => obtain ⟨r, κ', h1, h2⟩ := M9 hi hP hv hX.1 a; exact ⟨r, κ', by rw [if_neg (by decide), if_neg (by decide), if_neg (by decide), if_neg (by decide), if_neg (by decide), if_neg (by decide), if_neg (by decide), if_neg (by decide), if_neg (by decide)]; exact h1, h2⟩
end DOES
