/-! ===== text builders: the pure methods; their contracts ===== -/
def P_J4_setLength_d00df (κ : jKt) (a0 : Nat) (x1 : Int32) : Option jKt := ck (x1 = 0) <| some (kU κ a0 0 (.int 0))
def P_J4_length_8abf5 (κ : jKt) (a0 : Nat) : Option Int32 := some (kI κ a0 0)
def P_J4_charAt_5068e (κ : jKt) (a0 : Nat) (x1 : Int32) : Option Int32 := ck (0 ≤ x1) <| ck (x1 < kI κ a0 0) <| some (kI κ a0 (ix x1 + 1))
def P_J4_append_cf468 (κ : jKt) (a0 : Nat) (x1 : Int32) : Option (Nat × jKt) :=
  ck (0 ≤ x1 ∧ x1 < 256) <| ck (0 ≤ kI κ a0 0 ∧ kI κ a0 0 < 142) <|
  some (a0, kU (kU κ a0 (ix (kI κ a0 0) + 1) (.int x1)) a0 0 (.int (kI κ a0 0 + 1)))
def P_J4_append_bf812 (κ : jKt) (a0 : Nat) (x1 : Int32) : Option (Nat × jKt) :=
  ck (0 ≤ x1 ∧ x1 < 100) <| ck (0 ≤ kI κ a0 0 ∧ kI κ a0 0 < 141) <|
  if x1 < 10 then some (a0, kU (kU κ a0 (ix (kI κ a0 0) + 1) (.int (x1 + 48))) a0 0 (.int (kI κ a0 0 + 1)))
  else some (a0, kU (kU (kU κ a0 (ix (kI κ a0 0) + 1) (.int (x1 / 10 + 48))) a0 (ix (kI κ a0 0) + 2) (.int (irem x1 10 + 48))) a0 0 (.int (kI κ a0 0 + 2)))
theorem c_J4_setLength_d00df {l : Launch} {G : jG} {sh : jSh} {κ : jKt} {a0 : Nat} (ha0 : sh a0 = (6, 0, 0)) {x1 : Int32} {κr : jKt} (h : P_J4_setLength_d00df κ a0 x1 = some κr) : jM l G yJ4_setLength_d00df cJ4_setLength_d00df 2 none 8 0 0 300 [.ref a0, .int x1] (sh, κ) (jIs none (sh, κr)) jNo := sorry
theorem c_J4_length_8abf5 {l : Launch} {G : jG} {sh : jSh} {κ : jKt} {a0 : Nat} (ha0 : sh a0 = (6, 0, 0)) {r : Int32} (h : P_J4_length_8abf5 κ a0 = some r) : jM l G yJ4_length_8abf5 cJ4_length_8abf5 1 (some .int) 8 0 0 300 [.ref a0] (sh, κ) (jIs (some (.int r)) (sh, κ)) jNo := sorry
theorem c_J4_charAt_5068e {l : Launch} {G : jG} {sh : jSh} {κ : jKt} {a0 : Nat} (ha0 : sh a0 = (6, 0, 0)) {x1 : Int32} {r : Int32} (h : P_J4_charAt_5068e κ a0 x1 = some r) : jM l G yJ4_charAt_5068e cJ4_charAt_5068e 2 (some .char) 8 0 0 300 [.ref a0, .int x1] (sh, κ) (jIs (some (.int r)) (sh, κ)) jNo := sorry
theorem c_J4_append_cf468 {l : Launch} {G : jG} {sh : jSh} {κ : jKt} {a0 : Nat} (ha0 : sh a0 = (6, 0, 0)) {x1 : Int32} {r : Nat} {κr : jKt} (h : P_J4_append_cf468 κ a0 x1 = some (r, κr)) : jM l G yJ4_append_cf468 cJ4_append_cf468 2 (some (.object "java/lang/StringBuilder")) 8 1 142 300 [.ref a0, .int x1] (sh, κ) (jIsT r (6, 0, 0) sh κr) jNo := sorry
theorem c_J4_append_bf812 {l : Launch} {G : jG} {sh : jSh} {κ : jKt} {a0 : Nat} (ha0 : sh a0 = (6, 0, 0)) {x1 : Int32} {r : Nat} {κr : jKt} (h : P_J4_append_bf812 κ a0 x1 = some (r, κr)) : jM l G yJ4_append_bf812 cJ4_append_bf812 2 (some (.object "java/lang/StringBuilder")) 8 1 142 300 [.ref a0, .int x1] (sh, κ) (jIsT r (6, 0, 0) sh κr) jNo := sorry
