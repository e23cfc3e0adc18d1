section TG4
variable {l : Launch} {G : tg_G} {Z : tg_Z} {E : tg_E} {R : Room} {own nm : String} {cc : ByteArray} {nL : Nat} {ret : Option FieldType} {pc pc2 : Nat} {lv : List (Nat × Value)} {rest : List Value} {w : va_W} {k n : Nat}
theorem V_new {index ci N : Nat} {C0 : String} {T : u_T} (ty : Nat → FieldType) (fs : List Value) (d : Dc cc pc (.new index) 3 pc2) (hin : ∀ w ∈ u_ws C0 T N, w ∈ tg_tbl) (hty : ∀ k, k < N → parseFieldDescriptor (T k).2.2.1 = some (ty k)) (h1 : Cond.classLink own index C0 ∈ tg_tbl) (h2 : Cond.instantiable C0 N ∈ tg_tbl) (h3 : Cond.initialized C0 ∈ tg_tbl) (hc : classes[ci]? = some (C0, T, N)) (hfs : ∀ j, j < N → defaultValue (ty j) = vp_V fs j) (hk : k + 1 ≤ R.cells) (hn : n + N ≤ R.slots) (kk : ∀ q : Nat, V l G Z E R own nm cc nL ret pc2 lv (.ref q :: rest) (w ++ [(q, .inr (ci, fs))]) (k + 1) (n + N)) : V l G Z E R own nm cc nL ret pc lv rest w k n := by
  intro p e s m args below meth c A C H locs hP hD hS ls hl
  obtain ⟨hd, rfl⟩ := d
  have hts := C.2.2.2.2.2.1
  exact va_new C.1 C.2.1 hts hin ty hty C.2.2.2.2.1 (hts _ h1) (hts _ h2) (hts _ h3) C.2.2.2.2.2.2.2.2.2.1.1 hP hD hS C.2.2.2.2.2.2.2.1 hc hfs hk hn hd (fun q H1 a1 a2 a3 => kk q p e s m args below meth c A C H1 locs a1 a2 a3 ls hl)
theorem V_newi {x : Int32} {N : Nat} (d : Dc cc pc (.newarray .int) 2 pc2) (ha : Cond.arrayClass .int ∈ tg_tbl) (hx : ¬ x < 0) (hN : x.toNatClampNeg = N) (hb : N * 4 ≤ 536870912) (hk : k + 1 ≤ R.cells) (hn : n + N ≤ R.slots) (kk : ∀ q : Nat, V l G Z E R own nm cc nL ret pc2 lv (.ref q :: rest) (w ++ [(q, .inl (G.2.1, N, .inl (fun _ => 0)))]) (k + 1) (n + N)) : V l G Z E R own nm cc nL ret pc lv (.int x :: rest) w k n := by
  intro p e s m args below meth c A C H locs hP hD hS ls hl
  obtain ⟨hd, rfl⟩ := d
  have hts := C.2.2.2.2.2.1
  have hK := C.2.2.2.2.2.2.2.2.2.1.1
  refine va_newa (atype := .int) (ty := .int) (a0 := (N, .inl (fun _ => 0))) C.1 C.2.1 (hts _ ha) rfl hK hP hD hS C.2.2.2.2.2.2.2.1 (fun cA => rfl) hx hN hb hk hn hd (fun q cA H1 k1 a1 a2 a3 => ?_)
  have e1 : s.vm.findClass ("[" ++ FieldType.int.toString) = some cA := (k1.2 3 _ rfl).2
  have e2 : s.vm.findClass ("[" ++ FieldType.int.toString) = some G.2.1 := (hK.2 0 _ rfl).2
  have e3 : cA = G.2.1 := Option.some.inj (e1.symm.trans e2)
  subst e3
  exact kk q p e s m args below meth c A C H1 locs a1 a2 a3 ls hl
theorem V_newz {x : Int32} {N : Nat} (d : Dc cc pc (.newarray .boolean) 2 pc2) (ha : Cond.arrayClass .boolean ∈ tg_tbl) (hx : ¬ x < 0) (hN : x.toNatClampNeg = N) (hb : N * 1 ≤ 536870912) (hk : k + 1 ≤ R.cells) (hn : n + N ≤ R.slots) (kk : ∀ q : Nat, V l G Z E R own nm cc nL ret pc2 lv (.ref q :: rest) (w ++ [(q, .inl (G.2.2.1, N, .inl (fun _ => 0)))]) (k + 1) (n + N)) : V l G Z E R own nm cc nL ret pc lv (.int x :: rest) w k n := by
  intro p e s m args below meth c A C H locs hP hD hS ls hl
  obtain ⟨hd, rfl⟩ := d
  have hts := C.2.2.2.2.2.1
  have hK := C.2.2.2.2.2.2.2.2.2.1.1
  refine va_newa (atype := .boolean) (ty := .boolean) (a0 := (N, .inl (fun _ => 0))) C.1 C.2.1 (hts _ ha) rfl hK hP hD hS C.2.2.2.2.2.2.2.1 (fun cA => rfl) hx hN hb hk hn hd (fun q cA H1 k1 a1 a2 a3 => ?_)
  have e1 : s.vm.findClass ("[" ++ FieldType.boolean.toString) = some cA := (k1.2 3 _ rfl).2
  have e2 : s.vm.findClass ("[" ++ FieldType.boolean.toString) = some G.2.2.1 := (hK.2 1 _ rfl).2
  have e3 : cA = G.2.2.1 := Option.some.inj (e1.symm.trans e2)
  subst e3
  exact kk q p e s m args below meth c A C H1 locs a1 a2 a3 ls hl
theorem V_newq {x : Int32} {index N : Nat} (d : Dc cc pc (.anewarray index) 3 pc2) (h1 : Cond.classLink own index "TramGod$World" ∈ tg_tbl) (hx : ¬ x < 0) (hN : x.toNatClampNeg = N) (hb : N * 4 ≤ 536870912) (hk : k + 1 ≤ R.cells) (hn : n + N ≤ R.slots) (kk : ∀ q : Nat, V l G Z E R own nm cc nL ret pc2 lv (.ref q :: rest) (w ++ [(q, .inl (G.2.2.2.1, N, .inr (.inr (.inr (.inr (fun _ => none))))))]) (k + 1) (n + N)) : V l G Z E R own nm cc nL ret pc lv (.int x :: rest) w k n := by
  intro p e s m args below meth c A C H locs hP hD hS ls hl
  obtain ⟨hd, rfl⟩ := d
  have hts := C.2.2.2.2.2.1
  have hK := C.2.2.2.2.2.2.2.2.2.1.1
  refine va_newq C.1 C.2.1 C.2.2.2.2.1 (hts _ h1) C.2.2.2.2.2.2.2.2.2.1.2.2.2.2 hK hP hD hS C.2.2.2.2.2.2.2.1 hx hN hb hk hn hd (fun q cA H1 k1 a1 a2 a3 => ?_)
  obtain ⟨-, -, -, -, -, e1⟩ := (k1.2 3 _ rfl).2
  obtain ⟨-, -, -, -, -, e2⟩ := (hK.2 2 _ rfl).2
  have e3 : cA = G.2.2.2.1 := Option.some.inj (e1.symm.trans e2)
  subst e3
  exact kk q p e s m args below meth c A C H1 locs a1 a2 a3 ls hl
theorem V_copy {index a0 a1 n0 n1 : Nat} {f g : Nat → Int32} {sp dp m0 : Int32} {w' : va_W} (d : Dc cc pc (.invokestatic index) 3 pc2) (h1 : Cond.methodLink own index arraycopyName ∈ tg_tbl) (h2 : Cond.native arraycopyName ∈ tg_tbl) (h3 : Cond.static arraycopyName ∈ tg_tbl) (h4 : Cond.initialized "java/lang/System" ∈ tg_tbl) (q0 q1 : Nat) (e0 : w[q0]? = some (a0, .inl (G.2.1, n0, .inl f))) (e1 : w[q1]? = some (a1, .inl (G.2.1, n1, .inl g))) (g1 : ¬ sp < 0) (g2 : ¬ dp < 0) (g3 : ¬ m0 < 0) (g4 : sp.toNatClampNeg + m0.toNatClampNeg ≤ n0) (g5 : dp.toNatClampNeg + m0.toNatClampNeg ≤ n1) (hf : 1 ≤ R.frames) (hR : (rest.map fun v => v.category).sum + (nativeFrameWords "java/lang/System" "arraycopy" 5 + 11) ≤ R.locals) (hw : w.set q1 (a1, .inl (G.2.1, n1, .inl (va_cpy f g sp.toNatClampNeg dp.toNatClampNeg m0.toNatClampNeg))) = w') (kk : V l G Z E R own nm cc nL ret pc2 lv rest w' k n) : V l G Z E R own nm cc nL ret pc lv (.int m0 :: .int dp :: .ref a1 :: .int sp :: .ref a0 :: rest) w k n := by
  intro p e s m args below meth c A C H locs hP hD hS ls hl
  obtain ⟨hd, rfl⟩ := d
  subst hw
  have hts := C.2.2.2.2.2.1
  have hK := C.2.2.2.2.2.2.2.2.2.1.1
  exact va_copyi C.1 C.2.1 (by rw [C.2.2.2.1]; exact hl.1.symm) C.2.2.2.2.1 (hts _ h1) (hts _ h2) (hts _ h3) (hts _ h4) hK hP hD hS q0 q1 0 0 e0 e1 rfl rfl rfl g1 g2 g3 g4 g5 (fun _ _ => rfl) hf hR hd (fun H1 locs1 b1 b2 b3 => kk p e s m args below meth c A C H1 locs1 b1 b2 b3 ls hl)
end TG4
