/-! ===== numbers with a point: the library's own lemmas ===== -/
theorem fl_w (w c : Int32) (hc : c ≠ 0) : FP.fdiv (FP.i2f w) (FP.i2f c) &&& 0x7fffffff ≤ 0x7f800000 := Jvm.Free.Fl.fdiv_out (Jvm.Free.Fl.i2f_fin w).noNaN (Jvm.Free.Fl.i2f_fin c) (Jvm.Free.Fl.i2f_nz hc)
theorem fl_d {a : UInt32} (h : a &&& 0x7fffffff ≤ 0x7f800000) : FP.f2d a &&& 0x7fffffffffffffff ≤ 0x7ff0000000000000 := Jvm.Free.Fl.f2d_out h
theorem fl_m (a b : Int32) (hb : b ≠ 0) : FP.ddiv (FP.i2d a) (FP.i2d b) &&& 0x7fffffffffffffff ≤ 0x7ff0000000000000 := Jvm.Free.Fl.ddiv_out (Jvm.Free.Fl.i2d_fin a).noNaN (Jvm.Free.Fl.i2d_fin b) (Jvm.Free.Fl.i2d_nz hb)
theorem fl_c {x : UInt64} (h : x &&& 0x7fffffffffffffff ≤ 0x7ff0000000000000) : Op.cmpValue (FP.dcmp x x) .l = 0 := by
  have h2 : FP.dcmp x x = some .eq := Jvm.FP.Core.dcmp_refl (Jvm.Free.Fl.noNaN64_no.mp h)
  rw [h2]; rfl
