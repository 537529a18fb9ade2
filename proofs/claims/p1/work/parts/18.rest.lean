/-! THE WALK: what is left -/
section EVG
variable {p : Program} {l : Launch} {e : Env} {R : Room} {s : State} {m : MethodId} {args : Array Value} {below : List Frame} {meth : Method} {c : Code} {ρ : Nat → Int32} {τ : Nat → Nat} {D : va_G} {tys : List (ClassId × FieldType)} {A : Nat → Prop} {c0 s0 nL : Nat} {cc : ByteArray} {own : String} {fr lo : Nat} {w0 : va_W} {ret : Option FieldType} {hh : List ExceptionTableEntry} {nm : String}
variable {Q : State → Prop} {X : ev_X} {pc : Nat} {lv lv' : List (Nat × (Nat × Nat))} {st st' : List (Nat × Nat)} {h : ev_H} {K L : ev_O} {n i a b v tgt rk : Nat} {off : Int} {k : Nat → ev_O} {kh : ev_H → ev_O} {kn : Nat → ev_H → ev_O}
theorem gd_null (d : decode cc pc = .ok (.aconst_null, 1)) (g : ev_Gd p l e R s m args below meth c ρ τ D tys A c0 s0 nL cc own fr lo w0 ret hh nm Q X (pc + 1) lv ((3, 0) :: st) h K) : ev_Gd p l e R s m args below meth c ρ τ D tys A c0 s0 nL cc own fr lo w0 ret hh nm Q X pc lv st h K :=
  gd_push .null (fun _ => ev_RV.ofr (by decide) (Or.inl ⟨rfl, rfl⟩)) (fun F _ _ _ _ _ _ kk => lv_null F.1 F.2.1 d kk) g
theorem gd_ldcS {idx : Nat} {tx : String} (i : Nat) (hq : ev_txts[i]? = some (own, (idx, tx))) (d : decode cc pc = .ok (.ldc idx, 2)) (g : ev_Gd p l e R s m args below meth c ρ τ D tys A c0 s0 nL cc own fr lo w0 ret hh nm Q X (pc + 2) lv ((3, 16 + i) :: st) h K) : ev_Gd p l e R s m args below meth c ρ τ D tys A c0 s0 nL cc own fr lo w0 ret hh nm Q X pc lv st h K := by
  have hi : i < 6 := (List.getElem?_eq_some_iff.mp hq).1
  exact gd_push (.ref (τ (16 + i))) (fun _ => ev_RV.ofr (by omega) (Or.inr (Or.inr (Or.inl ⟨by omega, by omega, by omega, rfl⟩)))) (fun F _ _ _ _ _ _ kk => va_ldcS F.1 F.2.1 F.2.2.2.1 (F.2.2.2.2.2.2.1.2.2.2.2.2.2.2.2 i _ hq).1 d kk) g
theorem gd_icompare {idx : Nat} (hl : Cond.methodLink own idx yJ6_compare_7cf53 ∈ ev_good) (hfr : 1 ≤ fr) (hlo : 21 ≤ lo) (d : decode cc pc = .ok (.invokestatic idx, 3)) (g : ∀ r, ev_Gd p l e R s m args below meth c ρ τ D tys A c0 s0 nL cc own fr lo w0 ret hh nm Q X (pc + 3) lv ((1, r) :: st) h (k r)) :
    ev_Gd p l e R s m args below meth c ρ τ D tys A c0 s0 nL cc own fr lo w0 ret hh nm Q X pc lv ((1, b) :: (1, a) :: st) h (ev_icompare h a b k) := sorry
theorem gd_slen {idx : Nat} (hl : Cond.methodLink own idx yJ0_length_8abf5 ∈ ev_good) (hfr : 5 ≤ fr) (hlo : 140 ≤ lo) (d : decode cc pc = .ok (.invokevirtual idx, 3)) (g : ∀ r, ev_Gd p l e R s m args below meth c ρ τ D tys A c0 s0 nL cc own fr lo w0 ret hh nm Q X (pc + 3) lv ((1, r) :: st) h (k r)) :
    ev_Gd p l e R s m args below meth c ρ τ D tys A c0 s0 nL cc own fr lo w0 ret hh nm Q X pc lv ((3, a) :: st) h (ev_slen a k) := sorry
theorem gd_schar {idx : Nat} (hl : Cond.methodLink own idx yJ0_charAt_5068e ∈ ev_good) (hfr : 5 ≤ fr) (hlo : 140 ≤ lo) (d : decode cc pc = .ok (.invokevirtual idx, 3)) (g : ∀ r, ev_Gd p l e R s m args below meth c ρ τ D tys A c0 s0 nL cc own fr lo w0 ret hh nm Q X (pc + 3) lv ((1, r) :: st) h (k r)) :
    ev_Gd p l e R s m args below meth c ρ τ D tys A c0 s0 nL cc own fr lo w0 ret hh nm Q X pc lv ((1, i) :: (3, a) :: st) h (ev_schar a i k) := sorry
theorem gd_copy {idx : Nat} {sp dp : Nat} (hl : Cond.methodLink own idx arraycopyName ∈ ev_good) (d : decode cc pc = .ok (.invokestatic idx, 3)) (g : ∀ h', ev_Gd p l e R s m args below meth c ρ τ D tys A c0 s0 nL cc own fr lo w0 ret hh nm Q X (pc + 3) lv st h' (kh h')) :
    ev_Gd p l e R s m args below meth c ρ τ D tys A c0 s0 nL cc own fr lo w0 ret hh nm Q X pc lv ((1, n) :: (1, dp) :: (3, b) :: (1, sp) :: (3, a) :: st) h (ev_copy h a sp b dp n kh) := sorry
end EVG
