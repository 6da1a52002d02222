/-! ===== numbers with a point: the library's own lemmas stand behind these (see NOTES: this part moves to the front) ===== -/
theorem fl_w (w c : Int32) (hc : c ≠ 0) : FP.fdiv (FP.i2f w) (FP.i2f c) &&& 0x7fffffff ≤ 0x7f800000 := sorry
theorem fl_d {a : UInt32} (h : a &&& 0x7fffffff ≤ 0x7f800000) : FP.f2d a &&& 0x7fffffffffffffff ≤ 0x7ff0000000000000 := sorry
theorem fl_m (a b : Int32) (hb : b ≠ 0) : FP.ddiv (FP.i2d a) (FP.i2d b) &&& 0x7fffffffffffffff ≤ 0x7ff0000000000000 := sorry
theorem fl_c {x : UInt64} (h : x &&& 0x7fffffffffffffff ≤ 0x7ff0000000000000) : Op.cmpValue (FP.dcmp x x) .l = 0 := sorry
