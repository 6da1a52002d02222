theorem fin_ok {α : Type} {F : jFm} {vf : α → Option Value} {a : α} {κ : jKt} (h : jOut F (vf a) κ) : jFinX F vf (.ok a) κ := h
theorem fin_er {α : Type} {F : jFm} {vf : α → Option Value} {E : String} {κ : jKt} (h : jThr F E κ) : jFinX F vf (.error E) κ := h
theorem fin_okG {α : Type} {F : jFm} {g : α → jKt → Prop} {a : α} {κ : jKt} (h : g a κ) : jFinG F g (.ok a) κ := h
theorem fin_erG {α : Type} {F : jFm} {g : α → jKt → Prop} {E : String} {κ : jKt} (h : jThr F E κ) : jFinG F g (.error E) κ := h
