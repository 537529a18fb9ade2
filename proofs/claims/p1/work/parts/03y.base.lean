def ev_good : List Cond := lw_tbl.filter goodWord
theorem ev_in {w : Cond} (h1 : w ∈ lw_tbl) (h2 : goodWord w = true) : w ∈ ev_good := List.mem_filter.mpr ⟨h1, h2⟩
theorem ev_good_lw {w : Cond} (h : w ∈ ev_good) : w ∈ lw_tbl ∧ goodWord w = true := List.mem_filter.mp h
abbrev ev_Yd (y : MethodName) (C : String) (n : Nat) : Prop := y.cls = C ∧ y.cls ≠ "java/lang/invoke/MethodHandle" ∧ y.cls ≠ "java/lang/invoke/VarHandle" ∧ (parseMethodDescriptor y.desc).map (fun d => d.parameters.length) = some n
