/-! AN INT ARRAY'S CONTENTS FORGOTTEN -/
def ev_anyrow : Nat := 395623637105854075150418241927335308204742827745297988398579325839419099215695300310426603096676067566529474333861722629857146760809051624465525827476136184681149736546386707074313585570632580160230777489943339927398168020265892325940836145073509630946874296792528136009763811710502240227037389509259365532632643658629935673182422082959562364757359664434687810183615166564131820296951187978745332119840547253934256580849238847667085690274174242554600163318589307429150519930477181891419399510653924532022361850223103596541745630422868527685566627000693241662426439959183706992486444032765511517680654954051110541176343458039558976095657826824492206047920217087114014264612605742221122308607060460423400176973224111444044495211235744314832071194174206873960447
theorem ev_anyrow_at : ∀ m, m < 32 → ev_sl ev_anyrow (Nat.mul 80 m) = 1103806595071 := by decide +kernel
noncomputable def ev_blur (r : Nat) (h : ev_H) (k : ev_H → ev_O) : ev_O :=
  ev_if (Nat.ble (Nat.succ r) 1088) (ev_cell (h.1.get r) none (fun _ _ => none) fun kd len _ => ev_if (Nat.beq kd 0) (ev_f len fun len => ev_set none h.1 r (some (.inr (0, (len, .leaf ev_anyrow)))) 0 1088 fun t => ev_f h.2.1 fun G => ev_f h.2.2.1 fun w => ev_f h.2.2.2.1 fun c => ev_f h.2.2.2.2 fun s => k (t, (G, (w, (c, s))))) none) none
noncomputable def ev_blurf (ci q a : Nat) (h : ev_H) (k : ev_H → ev_O) : ev_O := ev_getf h ci q a fun r => ev_blur r h k
section EVG
variable {p : Program} {l : Launch} {e : Env} {R : Room} {s : State} {m : MethodId} {args : Array Value} {below : List Frame} {meth : Method} {c : Code} {ρ : Nat → Int32} {τ : Nat → Nat} {D : va_G} {tys : List (ClassId × FieldType)} {A : Nat → Prop} {c0 s0 nL : Nat} {cc : ByteArray} {own : String} {fr lo : Nat} {w0 : va_W} {ret : Option FieldType} {hh : List ExceptionTableEntry} {nm : String}
variable {Q : State → Prop} {X : ev_X} {pc : Nat} {lv lv' : List (Nat × (Nat × Nat))} {st st' : List (Nat × Nat)} {h : ev_H} {K L : ev_O} {n i a b v tgt rk : Nat} {off : Int} {k : Nat → ev_O} {kh : ev_H → ev_O} {kn : Nat → ev_H → ev_O}
theorem gd_blur {ci q : Nat} (g : ∀ h', ev_Gd p l e R s m args below meth c ρ τ D tys A c0 s0 nL cc own fr lo w0 ret hh nm Q X pc lv st h' (kh h')) : ev_Gd p l e R s m args below meth c ρ τ D tys A c0 s0 nL cc own fr lo w0 ret hh nm Q X pc lv st h (ev_blurf ci q a h kh) := by
  intro z
  unfold ev_blurf ev_getf at z
  rcases ev_cell_or z with ⟨c9, N9, -, z⟩ | ⟨kd, len, T, -, z⟩
  · obtain ⟨-, z⟩ := ev_ifn z
    rw [ev_f_eq] at z
    unfold ev_blur at z
    obtain ⟨hr, z⟩ := ev_ifn z
    have hr : ev_sl N9 q < 1088 := Nat.le_of_ble_eq_true hr
    generalize ev_sl N9 q = r at hr z
    rcases ev_cell_or z with ⟨c8, N8, -, z⟩ | ⟨kd, len, T, hg, z⟩
    · exact nomatch z
    · obtain ⟨hk, z⟩ := ev_ifn z
      have hk := Nat.eq_of_beq_eq_true hk
      subst hk
      rw [ev_f_eq] at z
      obtain ⟨t, z, ht⟩ := ev_set_spec' z
      have ht := ht hr
      rw [ev_f_eq, ev_f_eq, ev_f_eq, ev_f_eq] at z
      obtain ⟨g1, g2⟩ := g (t, h.2) z
      refine ⟨g1, fun F x1 x2 x3 x4 ws H locs ls stv hE hP hD hS hH hL hR => g2 F x1 x2 x3 x4 ws H locs ls stv hE hP hD hS ⟨hH.1, hH.2.1, hH.2.2.1, fun j cell hj hgj => ?_⟩ hL hR⟩
      have hgj : t.get j = some cell := hgj
      rw [ht j (Nat.zero_le _) hj] at hgj
      by_cases hjr : j = r
      · subst hjr
        rw [if_pos rfl] at hgj
        cases hgj
        obtain ⟨h5, a5, e5, h6, cA, f, h7, h8, h9, h10⟩ := hH.2.2.2 j _ hj hg
        refine ⟨h5, a5, e5, h6, cA, f, h7, h8, h9, ?_⟩
        rcases h10 with ⟨k1, g3, k2, k3⟩ | ⟨k1, -⟩ | ⟨k1, -⟩
        · refine Or.inl ⟨k1, g3, k2, fun i hi => ?_⟩
          have e : ev_at (.leaf ev_anyrow) i = 1103806595071 := ev_anyrow_at _ (Nat.lt_of_le_of_lt Nat.and_le_right (by decide))
          rw [e]
          exact ev_RV.ofi (ev_VI.any ρ _)
        · omega
        · omega
      · rw [if_neg hjr] at hgj
        exact hH.2.2.2 j cell hj hgj
  · exact nomatch z
end EVG
