
abbrev classes : List vw_C := [(RX0, TX0, 9), (RX1, TX1, 2), (RX2, TX2, 6), (RX3, TX3, 4), (RX4, TX4, 2), (RX5, TX5, 15), (RX6, TX6, 9), (RX7, TX7, 31)]
/-- class ids and slots; int[], boolean[], World[]; the address of CHOOSE -/
abbrev tg_G : Type := va_G × ClassId × ClassId × ClassId × Nat
def tg_T (G : tg_G) : List (ClassId × FieldType) := [(G.2.1, .int), (G.2.2.1, .boolean), (G.2.2.2.1, .object "TramGod$World")]
def tg_cho : List Int32 := [1, 0, 0, 0, 0, 0, 0, 1, 1, 0, 0, 0, 0, 0, 1, 2, 1, 0, 0, 0, 0, 1, 3, 3, 1, 0, 0, 0, 1, 4, 6, 4, 1, 0, 0, 1, 5, 10, 10, 5, 1, 0, 1, 6, 15, 20, 15, 6, 1, 1, 7, 21, 35, 35, 21, 7, 1, 8, 28, 56, 70, 56, 28, 1, 9, 36, 84, 126, 126, 84, 1, 10, 45, 120, 210, 252, 210, 1, 11, 55, 165, 330, 462, 462]
def tg_chf (j : Nat) : Int32 := tg_cho.getD j 0
def tg_nest : List Cond := [Cond.methodLinkNest "TramGod" 9 yX1_init "TramGod", Cond.methodLinkNest "TramGod" 18 yX5_init "TramGod", Cond.methodLinkNest "TramGod$Pad" 23 yX6_within "TramGod", Cond.methodLinkNest "TramGod$World" 85 yX6_within "TramGod", Cond.methodLinkNest "TramGod$Duel" 60 yX6_within "TramGod", Cond.fieldLinkNest "TramGod$Duel" 64 "TramGod" "CHOOSE" "[I" "TramGod"]
def tg_K (G : tg_G) (A : Nat → Prop) (s : State) : Prop := va_K G.1 classes (tg_T G) s ∧ va_Z "TramGod" "CHOOSE" "[I" (.ref G.2.2.2.2) A s s.heap ∧ va_T .int G.2.2.2.2 84 (fun j => .int (tg_chf j)) A s s.heap ∧ (∀ x ∈ tg_nest, va_Nw x s) ∧ va_AO "TramGod$World" s
abbrev tg_Z : Type := State → Array Value → List Frame → (Nat → Prop) → State → Prop
abbrev tg_E : Type := State → (Nat → Prop) → Prop
def tg_C (G : tg_G) (E : tg_E) (own nm : String) (cc : ByteArray) (nL : Nat) (ret : Option FieldType) (A : Nat → Prop) (p : Program) (s : State) (m : MethodId) (args : Array Value) (meth : Method) (c : Code) : Prop :=
  p.tables.exec = Jvm.exec ∧ c.code = cc ∧ meth.sig.returnType = ret ∧ c.maxLocals = nL ∧ s.vm.findClass own = some m.cls ∧ (∀ w ∈ tg_tbl, w.before args s = true) ∧ meth.locks = false ∧ (∀ q, s.heap.size ≤ q → A q) ∧ meth.name = nm ∧ tg_K G A s ∧ E s A
def V (l : Launch) (G : tg_G) (Z : tg_Z) (E : tg_E) (R : Room) (own nm : String) (cc : ByteArray) (nL : Nat) (ret : Option FieldType) (pc : Nat) (lv : List (Nat × Value)) (st : List Value) (w : va_W) (k n : Nat) : Prop :=
  ∀ (p : Program) (e : Env) (s : State) (m : MethodId) (args : Array Value) (below : List Frame) (meth : Method) (c : Code) (A : Nat → Prop), tg_C G E own nm cc nL ret A p s m args meth c →
  ∀ (H : Heap) (locs : List Loc), va_P G.1 classes w H → va_D A w → va_S A s.heap H locs → ∀ (ls : Array Slot), lv_has ls nL lv → W p l e R s m args below meth c H locs k n (Z s args below A) (F0 m pc ls st)
def Dc (cc : ByteArray) (pc : Nat) (i : Instr) (len pc2 : Nat) : Prop := decode cc pc = .ok (i, len) ∧ pc + len = pc2
section TG
variable {l : Launch} {G : tg_G} {Z : tg_Z} {E : tg_E} {R : Room} {own nm : String} {cc : ByteArray} {nL : Nat} {ret : Option FieldType} {pc pc2 : Nat} {lv : List (Nat × Value)} {rest : List Value} {w : va_W} {k n : Nat}

theorem V_iconst {z : Int} {v : Int32} (d : Dc cc pc (.iconst z) 1 pc2) (hv : Int32.ofInt z = v) (kk : V l G Z E R own nm cc nL ret pc2 lv (.int v :: rest) w k n) : V l G Z E R own nm cc nL ret pc lv (rest) w k n := by
  intro p e s m args below meth c A C H locs hP hD hS ls hl
  obtain ⟨hd, rfl⟩ := d
  exact lv_iconst C.1 C.2.1 hd hv (kk p e s m args below meth c A C H locs hP hD hS ls hl)
theorem V_bipush {z : Int} {v : Int32} (d : Dc cc pc (.bipush z) 2 pc2) (hv : (Int8.ofInt z).toInt32 = v) (kk : V l G Z E R own nm cc nL ret pc2 lv (.int v :: rest) w k n) : V l G Z E R own nm cc nL ret pc lv (rest) w k n := by
  intro p e s m args below meth c A C H locs hP hD hS ls hl
  obtain ⟨hd, rfl⟩ := d
  exact lv_bipush C.1 C.2.1 hd hv (kk p e s m args below meth c A C H locs hP hD hS ls hl)
theorem V_sipush {z : Int} {v : Int32} (d : Dc cc pc (.sipush z) 3 pc2) (hv : (Int16.ofInt z).toInt32 = v) (kk : V l G Z E R own nm cc nL ret pc2 lv (.int v :: rest) w k n) : V l G Z E R own nm cc nL ret pc lv (rest) w k n := by
  intro p e s m args below meth c A C H locs hP hD hS ls hl
  obtain ⟨hd, rfl⟩ := d
  exact lv_sipush C.1 C.2.1 hd hv (kk p e s m args below meth c A C H locs hP hD hS ls hl)
theorem V_lconst {z : Fin 2} {v : Int64} (d : Dc cc pc (.lconst z) 1 pc2) (hv : Int64.ofNat (z : Nat) = v) (kk : V l G Z E R own nm cc nL ret pc2 lv (.long v :: rest) w k n) : V l G Z E R own nm cc nL ret pc lv (rest) w k n := by
  intro p e s m args below meth c A C H locs hP hD hS ls hl
  obtain ⟨hd, rfl⟩ := d
  exact lv_lconst C.1 C.2.1 hd hv (kk p e s m args below meth c A C H locs hP hD hS ls hl)
theorem V_ldc {ix : Nat} {v : Int32} (d : Dc cc pc (.ldc ix) 2 pc2) (hm : Cond.constant own ix v ∈ tg_tbl) (kk : V l G Z E R own nm cc nL ret pc2 lv (.int v :: rest) w k n) : V l G Z E R own nm cc nL ret pc lv (rest) w k n := by
  intro p e s m args below meth c A C H locs hP hD hS ls hl
  obtain ⟨hd, rfl⟩ := d
  exact lv_ldc C.1 C.2.1 C.2.2.2.2.1 (C.2.2.2.2.2.1 _ hm) hd (kk p e s m args below meth c A C H locs hP hD hS ls hl)
theorem V_ldcw {ix : Nat} {v : Int32} (d : Dc cc pc (.ldc_w ix) 3 pc2) (hm : Cond.constant own ix v ∈ tg_tbl) (kk : V l G Z E R own nm cc nL ret pc2 lv (.int v :: rest) w k n) : V l G Z E R own nm cc nL ret pc lv (rest) w k n := by
  intro p e s m args below meth c A C H locs hP hD hS ls hl
  obtain ⟨hd, rfl⟩ := d
  exact lv_ldcw C.1 C.2.1 C.2.2.2.2.1 (C.2.2.2.2.2.1 _ hm) hd (kk p e s m args below meth c A C H locs hP hD hS ls hl)
theorem V_ldc2 {ix : Nat} {v : Int64} (d : Dc cc pc (.ldc2_w ix) 3 pc2) (hm : Cond.constantLong own ix v ∈ tg_tbl) (kk : V l G Z E R own nm cc nL ret pc2 lv (.long v :: rest) w k n) : V l G Z E R own nm cc nL ret pc lv (rest) w k n := by
  intro p e s m args below meth c A C H locs hP hD hS ls hl
  obtain ⟨hd, rfl⟩ := d
  exact lv_ldc2 C.1 C.2.1 C.2.2.2.2.1 (C.2.2.2.2.2.1 _ hm) hd (kk p e s m args below meth c A C H locs hP hD hS ls hl)
theorem V_iload_n {z : Fin 4} {x : Int32} (d : Dc cc pc (.iload_n z) 1 pc2) (j : Nat) (hj : lv[j]? = some ((z : Nat), .int x)) (kk : V l G Z E R own nm cc nL ret pc2 lv (.int x :: rest) w k n) : V l G Z E R own nm cc nL ret pc lv rest w k n := by
  intro p e s m args below meth c A C H locs hP hD hS ls hl
  obtain ⟨hd, rfl⟩ := d
  exact lv_iload_n C.1 C.2.1 hd rfl (lv_at hl j hj) (kk p e s m args below meth c A C H locs hP hD hS ls hl)
theorem V_iload {z : Nat} {x : Int32} (d : Dc cc pc (.iload z) 2 pc2) (j : Nat) (hj : lv[j]? = some (z, .int x)) (kk : V l G Z E R own nm cc nL ret pc2 lv (.int x :: rest) w k n) : V l G Z E R own nm cc nL ret pc lv rest w k n := by
  intro p e s m args below meth c A C H locs hP hD hS ls hl
  obtain ⟨hd, rfl⟩ := d
  exact lv_iload C.1 C.2.1 hd (lv_at hl j hj) (kk p e s m args below meth c A C H locs hP hD hS ls hl)
theorem V_istore_n {z : Fin 4} {x : Int32} {lv' : List (Nat × Value)} (d : Dc cc pc (.istore_n z) 1 pc2) (hn : (z : Nat) < nL) (hl' : ((z : Nat), Value.int x) :: lv.filter (fun q => !(q.1 == (z : Nat)) && !(q.1 + 1 == (z : Nat) && q.2.category == 2)) = lv') (kk : V l G Z E R own nm cc nL ret pc2 lv' rest w k n) : V l G Z E R own nm cc nL ret pc lv (.int x :: rest) w k n := by
  intro p e s m args below meth c A C H locs hP hD hS ls hl
  obtain ⟨hd, rfl⟩ := d
  exact lv_istore_n C.1 C.2.1 hd rfl hl hn hl' (fun ls' hl2 => kk p e s m args below meth c A C H locs hP hD hS ls' hl2)
theorem V_istore {z : Nat} {x : Int32} {lv' : List (Nat × Value)} (d : Dc cc pc (.istore z) 2 pc2) (hn : z < nL) (hl' : (z, Value.int x) :: lv.filter (fun q => !(q.1 == z) && !(q.1 + 1 == z && q.2.category == 2)) = lv') (kk : V l G Z E R own nm cc nL ret pc2 lv' rest w k n) : V l G Z E R own nm cc nL ret pc lv (.int x :: rest) w k n := by
  intro p e s m args below meth c A C H locs hP hD hS ls hl
  obtain ⟨hd, rfl⟩ := d
  exact lv_istore C.1 C.2.1 hd hl hn hl' (fun ls' hl2 => kk p e s m args below meth c A C H locs hP hD hS ls' hl2)
theorem V_lload_n {z : Fin 4} {x : Int64} (d : Dc cc pc (.lload_n z) 1 pc2) (j : Nat) (hj : lv[j]? = some ((z : Nat), .long x)) (kk : V l G Z E R own nm cc nL ret pc2 lv (.long x :: rest) w k n) : V l G Z E R own nm cc nL ret pc lv rest w k n := by
  intro p e s m args below meth c A C H locs hP hD hS ls hl
  obtain ⟨hd, rfl⟩ := d
  exact lv_lload_n C.1 C.2.1 hd rfl (lv_at hl j hj) (kk p e s m args below meth c A C H locs hP hD hS ls hl)
theorem V_lload {z : Nat} {x : Int64} (d : Dc cc pc (.lload z) 2 pc2) (j : Nat) (hj : lv[j]? = some (z, .long x)) (kk : V l G Z E R own nm cc nL ret pc2 lv (.long x :: rest) w k n) : V l G Z E R own nm cc nL ret pc lv rest w k n := by
  intro p e s m args below meth c A C H locs hP hD hS ls hl
  obtain ⟨hd, rfl⟩ := d
  exact lv_lload C.1 C.2.1 hd (lv_at hl j hj) (kk p e s m args below meth c A C H locs hP hD hS ls hl)
theorem V_lstore_n {z : Fin 4} {x : Int64} {lv' : List (Nat × Value)} (d : Dc cc pc (.lstore_n z) 1 pc2) (hn : (z : Nat) + 1 < nL) (hl' : ((z : Nat), Value.long x) :: lv.filter (fun q => !(q.1 == (z : Nat)) && (!(q.1 == (z : Nat) + 1) && !(q.1 + 1 == (z : Nat) && q.2.category == 2))) = lv') (kk : V l G Z E R own nm cc nL ret pc2 lv' rest w k n) : V l G Z E R own nm cc nL ret pc lv (.long x :: rest) w k n := by
  intro p e s m args below meth c A C H locs hP hD hS ls hl
  obtain ⟨hd, rfl⟩ := d
  exact lv_lstore_n C.1 C.2.1 hd rfl hl hn hl' (fun ls' hl2 => kk p e s m args below meth c A C H locs hP hD hS ls' hl2)
theorem V_lstore {z : Nat} {x : Int64} {lv' : List (Nat × Value)} (d : Dc cc pc (.lstore z) 2 pc2) (hn : z + 1 < nL) (hl' : (z, Value.long x) :: lv.filter (fun q => !(q.1 == z) && (!(q.1 == z + 1) && !(q.1 + 1 == z && q.2.category == 2))) = lv') (kk : V l G Z E R own nm cc nL ret pc2 lv' rest w k n) : V l G Z E R own nm cc nL ret pc lv (.long x :: rest) w k n := by
  intro p e s m args below meth c A C H locs hP hD hS ls hl
  obtain ⟨hd, rfl⟩ := d
  exact lv_lstore C.1 C.2.1 hd hl hn hl' (fun ls' hl2 => kk p e s m args below meth c A C H locs hP hD hS ls' hl2)
theorem V_aload_n {z : Fin 4} {x : Nat} (d : Dc cc pc (.aload_n z) 1 pc2) (j : Nat) (hj : lv[j]? = some ((z : Nat), .ref x)) (kk : V l G Z E R own nm cc nL ret pc2 lv (.ref x :: rest) w k n) : V l G Z E R own nm cc nL ret pc lv rest w k n := by
  intro p e s m args below meth c A C H locs hP hD hS ls hl
  obtain ⟨hd, rfl⟩ := d
  exact lv_aload_n C.1 C.2.1 hd rfl (lv_at hl j hj) (kk p e s m args below meth c A C H locs hP hD hS ls hl)
theorem V_aload {z : Nat} {x : Nat} (d : Dc cc pc (.aload z) 2 pc2) (j : Nat) (hj : lv[j]? = some (z, .ref x)) (kk : V l G Z E R own nm cc nL ret pc2 lv (.ref x :: rest) w k n) : V l G Z E R own nm cc nL ret pc lv rest w k n := by
  intro p e s m args below meth c A C H locs hP hD hS ls hl
  obtain ⟨hd, rfl⟩ := d
  exact lv_aload C.1 C.2.1 hd (lv_at hl j hj) (kk p e s m args below meth c A C H locs hP hD hS ls hl)
theorem V_astore_n {z : Fin 4} {x : Nat} {lv' : List (Nat × Value)} (d : Dc cc pc (.astore_n z) 1 pc2) (hn : (z : Nat) < nL) (hl' : ((z : Nat), Value.ref x) :: lv.filter (fun q => !(q.1 == (z : Nat)) && !(q.1 + 1 == (z : Nat) && q.2.category == 2)) = lv') (kk : V l G Z E R own nm cc nL ret pc2 lv' rest w k n) : V l G Z E R own nm cc nL ret pc lv (.ref x :: rest) w k n := by
  intro p e s m args below meth c A C H locs hP hD hS ls hl
  obtain ⟨hd, rfl⟩ := d
  exact lv_astore_n C.1 C.2.1 hd rfl hl hn hl' (fun ls' hl2 => kk p e s m args below meth c A C H locs hP hD hS ls' hl2)
theorem V_astore {z : Nat} {x : Nat} {lv' : List (Nat × Value)} (d : Dc cc pc (.astore z) 2 pc2) (hn : z < nL) (hl' : (z, Value.ref x) :: lv.filter (fun q => !(q.1 == z) && !(q.1 + 1 == z && q.2.category == 2)) = lv') (kk : V l G Z E R own nm cc nL ret pc2 lv' rest w k n) : V l G Z E R own nm cc nL ret pc lv (.ref x :: rest) w k n := by
  intro p e s m args below meth c A C H locs hP hD hS ls hl
  obtain ⟨hd, rfl⟩ := d
  exact lv_astore C.1 C.2.1 hd hl hn hl' (fun ls' hl2 => kk p e s m args below meth c A C H locs hP hD hS ls' hl2)
theorem V_iinc {z : Nat} {y : Int} {x v : Int32} {lv' : List (Nat × Value)} (d : Dc cc pc (.iinc z y) 3 pc2) (j : Nat) (hj : lv[j]? = some (z, .int x)) (hv : x + Int32.ofInt y = v) (hn : z < nL) (hl' : (z, Value.int v) :: lv.filter (fun q => !(q.1 == z) && !(q.1 + 1 == z && q.2.category == 2)) = lv') (kk : V l G Z E R own nm cc nL ret pc2 lv' rest w k n) : V l G Z E R own nm cc nL ret pc lv rest w k n := by
  intro p e s m args below meth c A C H locs hP hD hS ls hl
  obtain ⟨hd, rfl⟩ := d
  exact lv_iinc C.1 C.2.1 hd hl hj hv hn hl' (fun ls' hl2 => kk p e s m args below meth c A C H locs hP hD hS ls' hl2)
theorem V_iadd {x y : Int32} (d : Dc cc pc (.iadd) 1 pc2)  (kk : V l G Z E R own nm cc nL ret pc2 lv (.int (x + y) :: rest) w k n) : V l G Z E R own nm cc nL ret pc lv (.int y :: .int x :: rest) w k n := by
  intro p e s m args below meth c A C H locs hP hD hS ls hl
  obtain ⟨hd, rfl⟩ := d
  exact lv_iadd C.1 C.2.1 hd (kk p e s m args below meth c A C H locs hP hD hS ls hl)
theorem V_isub {x y : Int32} (d : Dc cc pc (.isub) 1 pc2)  (kk : V l G Z E R own nm cc nL ret pc2 lv (.int (x - y) :: rest) w k n) : V l G Z E R own nm cc nL ret pc lv (.int y :: .int x :: rest) w k n := by
  intro p e s m args below meth c A C H locs hP hD hS ls hl
  obtain ⟨hd, rfl⟩ := d
  exact lv_isub C.1 C.2.1 hd (kk p e s m args below meth c A C H locs hP hD hS ls hl)
theorem V_imul {x y : Int32} (d : Dc cc pc (.imul) 1 pc2)  (kk : V l G Z E R own nm cc nL ret pc2 lv (.int (x * y) :: rest) w k n) : V l G Z E R own nm cc nL ret pc lv (.int y :: .int x :: rest) w k n := by
  intro p e s m args below meth c A C H locs hP hD hS ls hl
  obtain ⟨hd, rfl⟩ := d
  exact lv_imul C.1 C.2.1 hd (kk p e s m args below meth c A C H locs hP hD hS ls hl)
theorem V_iand {x y : Int32} (d : Dc cc pc (.iand) 1 pc2)  (kk : V l G Z E R own nm cc nL ret pc2 lv (.int (x &&& y) :: rest) w k n) : V l G Z E R own nm cc nL ret pc lv (.int y :: .int x :: rest) w k n := by
  intro p e s m args below meth c A C H locs hP hD hS ls hl
  obtain ⟨hd, rfl⟩ := d
  exact lv_iand C.1 C.2.1 hd (kk p e s m args below meth c A C H locs hP hD hS ls hl)
theorem V_ior {x y : Int32} (d : Dc cc pc (.ior) 1 pc2)  (kk : V l G Z E R own nm cc nL ret pc2 lv (.int (x ||| y) :: rest) w k n) : V l G Z E R own nm cc nL ret pc lv (.int y :: .int x :: rest) w k n := by
  intro p e s m args below meth c A C H locs hP hD hS ls hl
  obtain ⟨hd, rfl⟩ := d
  exact lv_ior C.1 C.2.1 hd (kk p e s m args below meth c A C H locs hP hD hS ls hl)
theorem V_ixor {x y : Int32} (d : Dc cc pc (.ixor) 1 pc2)  (kk : V l G Z E R own nm cc nL ret pc2 lv (.int (x ^^^ y) :: rest) w k n) : V l G Z E R own nm cc nL ret pc lv (.int y :: .int x :: rest) w k n := by
  intro p e s m args below meth c A C H locs hP hD hS ls hl
  obtain ⟨hd, rfl⟩ := d
  exact lv_ixor C.1 C.2.1 hd (kk p e s m args below meth c A C H locs hP hD hS ls hl)
theorem V_ishl {x y : Int32} (d : Dc cc pc (.ishl) 1 pc2)  (kk : V l G Z E R own nm cc nL ret pc2 lv (.int (x <<< (y &&& 31)) :: rest) w k n) : V l G Z E R own nm cc nL ret pc lv (.int y :: .int x :: rest) w k n := by
  intro p e s m args below meth c A C H locs hP hD hS ls hl
  obtain ⟨hd, rfl⟩ := d
  exact lv_ishl C.1 C.2.1 hd (kk p e s m args below meth c A C H locs hP hD hS ls hl)
theorem V_ishr {x y : Int32} (d : Dc cc pc (.ishr) 1 pc2)  (kk : V l G Z E R own nm cc nL ret pc2 lv (.int (x >>> (y &&& 31)) :: rest) w k n) : V l G Z E R own nm cc nL ret pc lv (.int y :: .int x :: rest) w k n := by
  intro p e s m args below meth c A C H locs hP hD hS ls hl
  obtain ⟨hd, rfl⟩ := d
  exact lv_ishr C.1 C.2.1 hd (kk p e s m args below meth c A C H locs hP hD hS ls hl)
theorem V_iushr {x y : Int32} (d : Dc cc pc (.iushr) 1 pc2)  (kk : V l G Z E R own nm cc nL ret pc2 lv (.int ((x.toUInt32 >>> (y.toUInt32 &&& Int32.toUInt32 31)).toInt32) :: rest) w k n) : V l G Z E R own nm cc nL ret pc lv (.int y :: .int x :: rest) w k n := by
  intro p e s m args below meth c A C H locs hP hD hS ls hl
  obtain ⟨hd, rfl⟩ := d
  exact lv_iushr C.1 C.2.1 hd rfl (kk p e s m args below meth c A C H locs hP hD hS ls hl)
theorem V_ineg {x : Int32} (d : Dc cc pc (.ineg) 1 pc2)  (kk : V l G Z E R own nm cc nL ret pc2 lv (.int (-x) :: rest) w k n) : V l G Z E R own nm cc nL ret pc lv (.int x :: rest) w k n := by
  intro p e s m args below meth c A C H locs hP hD hS ls hl
  obtain ⟨hd, rfl⟩ := d
  exact lv_ineg C.1 C.2.1 hd (kk p e s m args below meth c A C H locs hP hD hS ls hl)
theorem V_idiv {x y : Int32} (d : Dc cc pc (.idiv) 1 pc2) (hy : ¬ y = 0) (kk : V l G Z E R own nm cc nL ret pc2 lv (.int (x / y) :: rest) w k n) : V l G Z E R own nm cc nL ret pc lv (.int y :: .int x :: rest) w k n := by
  intro p e s m args below meth c A C H locs hP hD hS ls hl
  obtain ⟨hd, rfl⟩ := d
  exact lv_idiv C.1 C.2.1 hd hy (kk p e s m args below meth c A C H locs hP hD hS ls hl)
theorem V_irem {x y : Int32} (d : Dc cc pc (.irem) 1 pc2) (hy : ¬ y = 0) (kk : V l G Z E R own nm cc nL ret pc2 lv (.int (x - x / y * y) :: rest) w k n) : V l G Z E R own nm cc nL ret pc lv (.int y :: .int x :: rest) w k n := by
  intro p e s m args below meth c A C H locs hP hD hS ls hl
  obtain ⟨hd, rfl⟩ := d
  exact lv_irem C.1 C.2.1 hd hy (kk p e s m args below meth c A C H locs hP hD hS ls hl)
theorem V_ladd {x y : Int64} (d : Dc cc pc (.ladd) 1 pc2)  (kk : V l G Z E R own nm cc nL ret pc2 lv (.long (x + y) :: rest) w k n) : V l G Z E R own nm cc nL ret pc lv (.long y :: .long x :: rest) w k n := by
  intro p e s m args below meth c A C H locs hP hD hS ls hl
  obtain ⟨hd, rfl⟩ := d
  exact lv_ladd C.1 C.2.1 hd (kk p e s m args below meth c A C H locs hP hD hS ls hl)
theorem V_lsub {x y : Int64} (d : Dc cc pc (.lsub) 1 pc2)  (kk : V l G Z E R own nm cc nL ret pc2 lv (.long (x - y) :: rest) w k n) : V l G Z E R own nm cc nL ret pc lv (.long y :: .long x :: rest) w k n := by
  intro p e s m args below meth c A C H locs hP hD hS ls hl
  obtain ⟨hd, rfl⟩ := d
  exact lv_lsub C.1 C.2.1 hd (kk p e s m args below meth c A C H locs hP hD hS ls hl)
theorem V_lmul {x y : Int64} (d : Dc cc pc (.lmul) 1 pc2)  (kk : V l G Z E R own nm cc nL ret pc2 lv (.long (x * y) :: rest) w k n) : V l G Z E R own nm cc nL ret pc lv (.long y :: .long x :: rest) w k n := by
  intro p e s m args below meth c A C H locs hP hD hS ls hl
  obtain ⟨hd, rfl⟩ := d
  exact lv_lmul C.1 C.2.1 hd (kk p e s m args below meth c A C H locs hP hD hS ls hl)
theorem V_lneg {x : Int64} (d : Dc cc pc (.lneg) 1 pc2)  (kk : V l G Z E R own nm cc nL ret pc2 lv (.long (-x) :: rest) w k n) : V l G Z E R own nm cc nL ret pc lv (.long x :: rest) w k n := by
  intro p e s m args below meth c A C H locs hP hD hS ls hl
  obtain ⟨hd, rfl⟩ := d
  exact lv_lneg C.1 C.2.1 hd (kk p e s m args below meth c A C H locs hP hD hS ls hl)
theorem V_ldiv {x y : Int64} (d : Dc cc pc (.ldiv) 1 pc2) (hy : ¬ y = 0) (kk : V l G Z E R own nm cc nL ret pc2 lv (.long (x / y) :: rest) w k n) : V l G Z E R own nm cc nL ret pc lv (.long y :: .long x :: rest) w k n := by
  intro p e s m args below meth c A C H locs hP hD hS ls hl
  obtain ⟨hd, rfl⟩ := d
  exact lv_ldiv C.1 C.2.1 hd hy (kk p e s m args below meth c A C H locs hP hD hS ls hl)
theorem V_lrem {x y : Int64} (d : Dc cc pc (.lrem) 1 pc2) (hy : ¬ y = 0) (kk : V l G Z E R own nm cc nL ret pc2 lv (.long (x - x / y * y) :: rest) w k n) : V l G Z E R own nm cc nL ret pc lv (.long y :: .long x :: rest) w k n := by
  intro p e s m args below meth c A C H locs hP hD hS ls hl
  obtain ⟨hd, rfl⟩ := d
  exact lv_lrem C.1 C.2.1 hd hy (kk p e s m args below meth c A C H locs hP hD hS ls hl)
theorem V_lcmp {x y : Int64} (d : Dc cc pc (.lcmp) 1 pc2)  (kk : V l G Z E R own nm cc nL ret pc2 lv (.int (lg_cmp x y) :: rest) w k n) : V l G Z E R own nm cc nL ret pc lv (.long y :: .long x :: rest) w k n := by
  intro p e s m args below meth c A C H locs hP hD hS ls hl
  obtain ⟨hd, rfl⟩ := d
  exact W.lcmp C.1 C.2.1 hd (kk p e s m args below meth c A C H locs hP hD hS ls hl)
theorem V_i2l {x : Int32} (d : Dc cc pc (.i2l) 1 pc2)  (kk : V l G Z E R own nm cc nL ret pc2 lv (.long x.toInt64 :: rest) w k n) : V l G Z E R own nm cc nL ret pc lv (.int x :: rest) w k n := by
  intro p e s m args below meth c A C H locs hP hD hS ls hl
  obtain ⟨hd, rfl⟩ := d
  exact lv_i2l C.1 C.2.1 hd rfl (kk p e s m args below meth c A C H locs hP hD hS ls hl)
theorem V_l2i {x : Int64} (d : Dc cc pc (.l2i) 1 pc2)  (kk : V l G Z E R own nm cc nL ret pc2 lv (.int x.toInt32 :: rest) w k n) : V l G Z E R own nm cc nL ret pc lv (.long x :: rest) w k n := by
  intro p e s m args below meth c A C H locs hP hD hS ls hl
  obtain ⟨hd, rfl⟩ := d
  exact lv_l2i C.1 C.2.1 hd rfl (kk p e s m args below meth c A C H locs hP hD hS ls hl)
theorem V_dup {va : Value} (d : Dc cc pc (.dup) 1 pc2) (hc : va.category = 1) (kk : V l G Z E R own nm cc nL ret pc2 lv (va :: va :: rest) w k n) : V l G Z E R own nm cc nL ret pc lv (va :: rest) w k n := by
  intro p e s m args below meth c A C H locs hP hD hS ls hl
  obtain ⟨hd, rfl⟩ := d
  exact lv_dup C.1 C.2.1 hd hc (kk p e s m args below meth c A C H locs hP hD hS ls hl)
theorem V_dup2 {va vb : Value} (d : Dc cc pc (.dup2) 1 pc2) (hc : va.category = 1) (hc2 : vb.category = 1) (kk : V l G Z E R own nm cc nL ret pc2 lv (va :: vb :: va :: vb :: rest) w k n) : V l G Z E R own nm cc nL ret pc lv (va :: vb :: rest) w k n := by
  intro p e s m args below meth c A C H locs hP hD hS ls hl
  obtain ⟨hd, rfl⟩ := d
  exact lv_dup2_11 C.1 C.2.1 hd hc hc2 (kk p e s m args below meth c A C H locs hP hD hS ls hl)
theorem V_pop {va : Value} (d : Dc cc pc (.pop) 1 pc2) (hc : va.category = 1) (kk : V l G Z E R own nm cc nL ret pc2 lv (rest) w k n) : V l G Z E R own nm cc nL ret pc lv (va :: rest) w k n := by
  intro p e s m args below meth c A C H locs hP hD hS ls hl
  obtain ⟨hd, rfl⟩ := d
  exact lv_pop C.1 C.2.1 hd hc (kk p e s m args below meth c A C H locs hP hD hS ls hl)
theorem V_icmp_eq {x y : Int32} {off : Int} {tgt : Nat} (d : Dc cc pc (.if_icmp .eq off) 3 pc2) (ht : (pc : Int) + off = (tgt : Int)) (kt : x = y → V l G Z E R own nm cc nL ret tgt lv rest w k n) (kf : ¬ x = y → V l G Z E R own nm cc nL ret pc2 lv rest w k n) : V l G Z E R own nm cc nL ret pc lv (.int y :: .int x :: rest) w k n := by
  intro p e s m args below meth c A C H locs hP hD hS ls hl
  obtain ⟨hd, rfl⟩ := d
  exact lv_icmp_eq C.1 C.2.1 hd ht (fun h => kt h p e s m args below meth c A C H locs hP hD hS ls hl) (fun h => kf h p e s m args below meth c A C H locs hP hD hS ls hl)
theorem V_if_eq {x : Int32} {off : Int} {tgt : Nat} (d : Dc cc pc (.ifCond .eq off) 3 pc2) (ht : (pc : Int) + off = (tgt : Int)) (kt : x = 0 → V l G Z E R own nm cc nL ret tgt lv rest w k n) (kf : ¬ x = 0 → V l G Z E R own nm cc nL ret pc2 lv rest w k n) : V l G Z E R own nm cc nL ret pc lv (.int x :: rest) w k n := by
  intro p e s m args below meth c A C H locs hP hD hS ls hl
  obtain ⟨hd, rfl⟩ := d
  exact lv_if_eq C.1 C.2.1 hd ht (fun h => kt h p e s m args below meth c A C H locs hP hD hS ls hl) (fun h => kf h p e s m args below meth c A C H locs hP hD hS ls hl)
theorem V_icmp_ne {x y : Int32} {off : Int} {tgt : Nat} (d : Dc cc pc (.if_icmp .ne off) 3 pc2) (ht : (pc : Int) + off = (tgt : Int)) (kt : ¬ x = y → V l G Z E R own nm cc nL ret tgt lv rest w k n) (kf : x = y → V l G Z E R own nm cc nL ret pc2 lv rest w k n) : V l G Z E R own nm cc nL ret pc lv (.int y :: .int x :: rest) w k n := by
  intro p e s m args below meth c A C H locs hP hD hS ls hl
  obtain ⟨hd, rfl⟩ := d
  exact lv_icmp_ne C.1 C.2.1 hd ht (fun h => kt h p e s m args below meth c A C H locs hP hD hS ls hl) (fun h => kf h p e s m args below meth c A C H locs hP hD hS ls hl)
theorem V_if_ne {x : Int32} {off : Int} {tgt : Nat} (d : Dc cc pc (.ifCond .ne off) 3 pc2) (ht : (pc : Int) + off = (tgt : Int)) (kt : ¬ x = 0 → V l G Z E R own nm cc nL ret tgt lv rest w k n) (kf : x = 0 → V l G Z E R own nm cc nL ret pc2 lv rest w k n) : V l G Z E R own nm cc nL ret pc lv (.int x :: rest) w k n := by
  intro p e s m args below meth c A C H locs hP hD hS ls hl
  obtain ⟨hd, rfl⟩ := d
  exact lv_if_ne C.1 C.2.1 hd ht (fun h => kt h p e s m args below meth c A C H locs hP hD hS ls hl) (fun h => kf h p e s m args below meth c A C H locs hP hD hS ls hl)
theorem V_icmp_lt {x y : Int32} {off : Int} {tgt : Nat} (d : Dc cc pc (.if_icmp .lt off) 3 pc2) (ht : (pc : Int) + off = (tgt : Int)) (kt : x < y → V l G Z E R own nm cc nL ret tgt lv rest w k n) (kf : ¬ x < y → V l G Z E R own nm cc nL ret pc2 lv rest w k n) : V l G Z E R own nm cc nL ret pc lv (.int y :: .int x :: rest) w k n := by
  intro p e s m args below meth c A C H locs hP hD hS ls hl
  obtain ⟨hd, rfl⟩ := d
  exact lv_icmp_lt C.1 C.2.1 hd ht (fun h => kt h p e s m args below meth c A C H locs hP hD hS ls hl) (fun h => kf h p e s m args below meth c A C H locs hP hD hS ls hl)
theorem V_if_lt {x : Int32} {off : Int} {tgt : Nat} (d : Dc cc pc (.ifCond .lt off) 3 pc2) (ht : (pc : Int) + off = (tgt : Int)) (kt : x < 0 → V l G Z E R own nm cc nL ret tgt lv rest w k n) (kf : ¬ x < 0 → V l G Z E R own nm cc nL ret pc2 lv rest w k n) : V l G Z E R own nm cc nL ret pc lv (.int x :: rest) w k n := by
  intro p e s m args below meth c A C H locs hP hD hS ls hl
  obtain ⟨hd, rfl⟩ := d
  exact lv_if_lt C.1 C.2.1 hd ht (fun h => kt h p e s m args below meth c A C H locs hP hD hS ls hl) (fun h => kf h p e s m args below meth c A C H locs hP hD hS ls hl)
theorem V_icmp_ge {x y : Int32} {off : Int} {tgt : Nat} (d : Dc cc pc (.if_icmp .ge off) 3 pc2) (ht : (pc : Int) + off = (tgt : Int)) (kt : y ≤ x → V l G Z E R own nm cc nL ret tgt lv rest w k n) (kf : ¬ y ≤ x → V l G Z E R own nm cc nL ret pc2 lv rest w k n) : V l G Z E R own nm cc nL ret pc lv (.int y :: .int x :: rest) w k n := by
  intro p e s m args below meth c A C H locs hP hD hS ls hl
  obtain ⟨hd, rfl⟩ := d
  exact lv_icmp_ge C.1 C.2.1 hd ht (fun h => kt h p e s m args below meth c A C H locs hP hD hS ls hl) (fun h => kf h p e s m args below meth c A C H locs hP hD hS ls hl)
theorem V_if_ge {x : Int32} {off : Int} {tgt : Nat} (d : Dc cc pc (.ifCond .ge off) 3 pc2) (ht : (pc : Int) + off = (tgt : Int)) (kt : 0 ≤ x → V l G Z E R own nm cc nL ret tgt lv rest w k n) (kf : ¬ 0 ≤ x → V l G Z E R own nm cc nL ret pc2 lv rest w k n) : V l G Z E R own nm cc nL ret pc lv (.int x :: rest) w k n := by
  intro p e s m args below meth c A C H locs hP hD hS ls hl
  obtain ⟨hd, rfl⟩ := d
  exact lv_if_ge C.1 C.2.1 hd ht (fun h => kt h p e s m args below meth c A C H locs hP hD hS ls hl) (fun h => kf h p e s m args below meth c A C H locs hP hD hS ls hl)
theorem V_icmp_gt {x y : Int32} {off : Int} {tgt : Nat} (d : Dc cc pc (.if_icmp .gt off) 3 pc2) (ht : (pc : Int) + off = (tgt : Int)) (kt : y < x → V l G Z E R own nm cc nL ret tgt lv rest w k n) (kf : ¬ y < x → V l G Z E R own nm cc nL ret pc2 lv rest w k n) : V l G Z E R own nm cc nL ret pc lv (.int y :: .int x :: rest) w k n := by
  intro p e s m args below meth c A C H locs hP hD hS ls hl
  obtain ⟨hd, rfl⟩ := d
  exact lv_icmp_gt C.1 C.2.1 hd ht (fun h => kt h p e s m args below meth c A C H locs hP hD hS ls hl) (fun h => kf h p e s m args below meth c A C H locs hP hD hS ls hl)
theorem V_if_gt {x : Int32} {off : Int} {tgt : Nat} (d : Dc cc pc (.ifCond .gt off) 3 pc2) (ht : (pc : Int) + off = (tgt : Int)) (kt : 0 < x → V l G Z E R own nm cc nL ret tgt lv rest w k n) (kf : ¬ 0 < x → V l G Z E R own nm cc nL ret pc2 lv rest w k n) : V l G Z E R own nm cc nL ret pc lv (.int x :: rest) w k n := by
  intro p e s m args below meth c A C H locs hP hD hS ls hl
  obtain ⟨hd, rfl⟩ := d
  exact lv_if_gt C.1 C.2.1 hd ht (fun h => kt h p e s m args below meth c A C H locs hP hD hS ls hl) (fun h => kf h p e s m args below meth c A C H locs hP hD hS ls hl)
theorem V_icmp_le {x y : Int32} {off : Int} {tgt : Nat} (d : Dc cc pc (.if_icmp .le off) 3 pc2) (ht : (pc : Int) + off = (tgt : Int)) (kt : x ≤ y → V l G Z E R own nm cc nL ret tgt lv rest w k n) (kf : ¬ x ≤ y → V l G Z E R own nm cc nL ret pc2 lv rest w k n) : V l G Z E R own nm cc nL ret pc lv (.int y :: .int x :: rest) w k n := by
  intro p e s m args below meth c A C H locs hP hD hS ls hl
  obtain ⟨hd, rfl⟩ := d
  exact lv_icmp_le C.1 C.2.1 hd ht (fun h => kt h p e s m args below meth c A C H locs hP hD hS ls hl) (fun h => kf h p e s m args below meth c A C H locs hP hD hS ls hl)
theorem V_if_le {x : Int32} {off : Int} {tgt : Nat} (d : Dc cc pc (.ifCond .le off) 3 pc2) (ht : (pc : Int) + off = (tgt : Int)) (kt : x ≤ 0 → V l G Z E R own nm cc nL ret tgt lv rest w k n) (kf : ¬ x ≤ 0 → V l G Z E R own nm cc nL ret pc2 lv rest w k n) : V l G Z E R own nm cc nL ret pc lv (.int x :: rest) w k n := by
  intro p e s m args below meth c A C H locs hP hD hS ls hl
  obtain ⟨hd, rfl⟩ := d
  exact lv_if_le C.1 C.2.1 hd ht (fun h => kt h p e s m args below meth c A C H locs hP hD hS ls hl) (fun h => kf h p e s m args below meth c A C H locs hP hD hS ls hl)
theorem V_goto {off : Int} {tgt : Nat} (d : Dc cc pc (.goto off) 3 pc2) (ht : (pc : Int) + off = (tgt : Int)) (kk : V l G Z E R own nm cc nL ret tgt lv rest w k n) : V l G Z E R own nm cc nL ret pc lv rest w k n := by
  intro p e s m args below meth c A C H locs hP hD hS ls hl
  obtain ⟨hd, rfl⟩ := d
  exact lv_goto C.1 C.2.1 hd ht (kk p e s m args below meth c A C H locs hP hD hS ls hl)
theorem V_tin {dflt lo hi : Int} {offs : Array Int} {len : Nat} {x : Int32} (off : Int) {tgt : Nat} (d : Dc cc pc (.tableswitch dflt lo hi offs) len pc2) (h1 : ¬ x.toInt < lo) (h2 : ¬ hi < x.toInt) (ho : offs[(x.toInt - lo).toNat]? = some off) (ht : (pc : Int) + off = (tgt : Int)) (kk : V l G Z E R own nm cc nL ret tgt lv rest w k n) : V l G Z E R own nm cc nL ret pc lv (.int x :: rest) w k n := by
  intro p e s m args below meth c A C H locs hP hD hS ls hl
  obtain ⟨hd, rfl⟩ := d
  exact lv_tableIn C.1 C.2.1 hd h1 h2 ho ht (kk p e s m args below meth c A C H locs hP hD hS ls hl)
theorem V_tout {dflt lo hi : Int} {offs : Array Int} {len : Nat} {x : Int32} {tgt : Nat} (d : Dc cc pc (.tableswitch dflt lo hi offs) len pc2) (h1 : x.toInt < lo ∨ hi < x.toInt) (ht : (pc : Int) + dflt = (tgt : Int)) (kk : V l G Z E R own nm cc nL ret tgt lv rest w k n) : V l G Z E R own nm cc nL ret pc lv (.int x :: rest) w k n := by
  intro p e s m args below meth c A C H locs hP hD hS ls hl
  obtain ⟨hd, rfl⟩ := d
  exact lv_tableOut C.1 C.2.1 hd h1 ht (kk p e s m args below meth c A C H locs hP hD hS ls hl)
theorem V_ifnonnull {x : Nat} {off : Int} {tgt : Nat} (d : Dc cc pc (.ifnonnull off) 3 pc2) (ht : (pc : Int) + off = (tgt : Int)) (kk : V l G Z E R own nm cc nL ret tgt lv rest w k n) : V l G Z E R own nm cc nL ret pc lv (.ref x :: rest) w k n := by
  intro p e s m args below meth c A C H locs hP hD hS ls hl
  obtain ⟨hd, rfl⟩ := d
  exact lv_ifnonnull C.1 C.2.1 hd ht (kk p e s m args below meth c A C H locs hP hD hS ls hl)
theorem V_ifnonnullN {off : Int} (d : Dc cc pc (.ifnonnull off) 3 pc2) (kk : V l G Z E R own nm cc nL ret pc2 lv rest w k n) : V l G Z E R own nm cc nL ret pc lv (.null :: rest) w k n := by
  intro p e s m args below meth c A C H locs hP hD hS ls hl
  obtain ⟨hd, rfl⟩ := d
  exact lv_ifnonnullN C.1 C.2.1 hd (kk p e s m args below meth c A C H locs hP hD hS ls hl)
theorem V_get {a index ci N : Nat} {C0 : String} {T : u_T} {fs : List Value} {v : Value} (d : Dc cc pc (.getfield index) 3 pc2) (hin : ∀ w ∈ u_ws C0 T N, w ∈ tg_tbl) (q0 : Nat) (he : w[q0]? = some (a, .inr (ci, fs))) (hc : classes[ci]? = some (C0, T, N)) (f : Nat) (hk : f < N) (hm : Cond.fieldLink own index (T f).1 (T f).2.1 (T f).2.2.1 ∈ tg_tbl) (hv : fs[f]? = some v) (kk : V l G Z E R own nm cc nL ret pc2 lv (v :: rest) w k n) : V l G Z E R own nm cc nL ret pc lv (.ref a :: rest) w k n := by
  intro p e s m args below meth c A C H locs hP hD hS ls hl
  obtain ⟨hd, rfl⟩ := d
  exact va_get (D := G.1) C.1 C.2.1 C.2.2.2.2.2.1 hin C.2.2.2.2.1 C.2.2.2.2.2.2.2.2.2.1.1 hP q0 he hc f hk (C.2.2.2.2.2.1 _ hm) (fun _ h9 => h9) hv hd (kk p e s m args below meth c A C H locs hP hD hS ls hl)
theorem V_put {a index ci N : Nat} {C0 : String} {T : u_T} {fs : List Value} {v : Value} {ty : FieldType} {w' : va_W} (d : Dc cc pc (.putfield index) 3 pc2) (hin : ∀ w ∈ u_ws C0 T N, w ∈ tg_tbl) (ty0 : Nat → FieldType) (hty : ∀ k, k < N → parseFieldDescriptor (T k).2.2.1 = some (ty0 k)) (hnm : ∀ a, a < N → ∀ b, b < N → a ≠ b → (T a).2.1 ≠ (T b).2.1) (q0 : Nat) (he : w[q0]? = some (a, .inr (ci, fs))) (hc : classes[ci]? = some (C0, T, N)) (f : Nat) (hk : f < N) (hm : Cond.fieldLink own index (T f).1 (T f).2.1 (T f).2.2.1 ∈ tg_tbl) (hfin : (T f).2.2.2 = false) (ht : ty0 f = ty) (hn : narrow ty v = v) (hfit : fits ty v = true) (hlen : f < fs.length) (hw : w.set q0 (a, .inr (ci, fs.set f v)) = w') (kk : V l G Z E R own nm cc nL ret pc2 lv rest w' k n) : V l G Z E R own nm cc nL ret pc lv (v :: .ref a :: rest) w k n := by
  intro p e s m args below meth c A C H locs hP hD hS ls hl
  obtain ⟨hd, rfl⟩ := d
  subst hw
  subst ht
  exact va_put (D := G.1) C.1 C.2.1 C.2.2.2.2.2.1 hin ty0 hty hnm C.2.2.2.2.1 C.2.2.2.2.2.2.2.2.2.1.1 hP hD hS q0 he hc f hk (C.2.2.2.2.2.1 _ hm) (fun _ h9 => h9) hfin (hty f hk) hn hfit hlen hd (fun H1 locs1 a1 a2 a3 => kk p e s m args below meth c A C H1 locs1 a1 a2 a3 ls hl)
theorem V_putF {a index ci N : Nat} {C0 : String} {T : u_T} {fs : List Value} {v : Value} {ty : FieldType} {w' : va_W} (d : Dc cc pc (.putfield index) 3 pc2) (hnm0 : nm = "<init>") (hin : ∀ w ∈ u_ws C0 T N, w ∈ tg_tbl) (ty0 : Nat → FieldType) (hty : ∀ k, k < N → parseFieldDescriptor (T k).2.2.1 = some (ty0 k)) (hnm : ∀ a, a < N → ∀ b, b < N → a ≠ b → (T a).2.1 ≠ (T b).2.1) (q0 : Nat) (he : w[q0]? = some (a, .inr (ci, fs))) (hc : classes[ci]? = some (C0, T, N)) (f : Nat) (hk : f < N) (hm : Cond.fieldLink own index (T f).1 (T f).2.1 (T f).2.2.1 ∈ tg_tbl) (hfin : (T f).2.2.2 = true) (hdecl : (T f).1 = own) (ht : ty0 f = ty) (hn : narrow ty v = v) (hfit : fits ty v = true) (hlen : f < fs.length) (hw : w.set q0 (a, .inr (ci, fs.set f v)) = w') (kk : V l G Z E R own nm cc nL ret pc2 lv rest w' k n) : V l G Z E R own nm cc nL ret pc lv (v :: .ref a :: rest) w k n := by
  intro p e s m args below meth c A C H locs hP hD hS ls hl
  obtain ⟨hd, rfl⟩ := d
  subst hw
  subst ht
  exact va_putF (D := G.1) C.1 C.2.1 C.2.2.2.2.2.1 hin ty0 hty hnm C.2.2.2.2.1 C.2.2.2.2.2.2.2.2.2.1.1 hP hD hS q0 he hc f hk (C.2.2.2.2.2.1 _ hm) (fun _ h9 => h9) hfin (C.2.2.2.2.2.2.2.2.1.trans hnm0) hdecl (hty f hk) hn hfit hlen hd (fun H1 locs1 a1 a2 a3 => kk p e s m args below meth c A C H1 locs1 a1 a2 a3 ls hl)
theorem V_iald {a N : Nat} {f : Nat → Int32} {i : Int32} (d : Dc cc pc (.iaload) 1 pc2) (q0 : Nat) (he : w[q0]? = some (a, .inl (G.2.1, N, .inl f))) (hi : vp_in i N) (kk : V l G Z E R own nm cc nL ret pc2 lv (.int (f i.toNatClampNeg) :: rest) w k n) : V l G Z E R own nm cc nL ret pc lv (.int i :: .ref a :: rest) w k n := by
  intro p e s m args below meth c A C H locs hP hD hS ls hl
  obtain ⟨hd, rfl⟩ := d
  exact va_iald (D := G.1) C.1 C.2.1 C.2.2.2.2.2.2.2.2.2.1.1 hP q0 0 he rfl hi hd (kk p e s m args below meth c A C H locs hP hD hS ls hl)
theorem V_iast {a N : Nat} {f : Nat → Int32} {i x : Int32} {w' : va_W} (d : Dc cc pc (.iastore) 1 pc2) (q0 : Nat) (he : w[q0]? = some (a, .inl (G.2.1, N, .inl f))) (hi : vp_in i N) (hw : w.set q0 (a, .inl (G.2.1, N, .inl (upd f i.toNatClampNeg x))) = w') (kk : V l G Z E R own nm cc nL ret pc2 lv rest w' k n) : V l G Z E R own nm cc nL ret pc lv (.int x :: .int i :: .ref a :: rest) w k n := by
  intro p e s m args below meth c A C H locs hP hD hS ls hl
  obtain ⟨hd, rfl⟩ := d
  subst hw
  exact va_iast (D := G.1) C.1 C.2.1 C.2.2.2.2.2.2.2.2.2.1.1 hP hD hS q0 0 he rfl hi hd (fun H1 locs1 a1 a2 a3 => kk p e s m args below meth c A C H1 locs1 a1 a2 a3 ls hl)
theorem V_zald {a N : Nat} {f : Nat → Int32} {i : Int32} (d : Dc cc pc (.baload) 1 pc2) (q0 : Nat) (he : w[q0]? = some (a, .inl (G.2.2.1, N, .inl f))) (hi : vp_in i N) (kk : V l G Z E R own nm cc nL ret pc2 lv (.int (f i.toNatClampNeg) :: rest) w k n) : V l G Z E R own nm cc nL ret pc lv (.int i :: .ref a :: rest) w k n := by
  intro p e s m args below meth c A C H locs hP hD hS ls hl
  obtain ⟨hd, rfl⟩ := d
  exact va_zald (D := G.1) C.1 C.2.1 C.2.2.2.2.2.2.2.2.2.1.1 hP q0 1 he rfl hi hd (kk p e s m args below meth c A C H locs hP hD hS ls hl)
theorem V_zast {a N : Nat} {f : Nat → Int32} {i x : Int32} {w' : va_W} (d : Dc cc pc (.bastore) 1 pc2) (q0 : Nat) (he : w[q0]? = some (a, .inl (G.2.2.1, N, .inl f))) (hi : vp_in i N) (hw : w.set q0 (a, .inl (G.2.2.1, N, .inl (upd f i.toNatClampNeg (vp_nar .boolean x)))) = w') (kk : V l G Z E R own nm cc nL ret pc2 lv rest w' k n) : V l G Z E R own nm cc nL ret pc lv (.int x :: .int i :: .ref a :: rest) w k n := by
  intro p e s m args below meth c A C H locs hP hD hS ls hl
  obtain ⟨hd, rfl⟩ := d
  subst hw
  exact va_zast (D := G.1) C.1 C.2.1 C.2.2.2.2.2.2.2.2.2.1.1 hP hD hS q0 1 he rfl hi hd (fun H1 locs1 a1 a2 a3 => kk p e s m args below meth c A C H1 locs1 a1 a2 a3 ls hl)
theorem V_alen {a : Nat} {cA : ClassId} {x : vp_A} {ty : FieldType} {v : Int32} (d : Dc cc pc (.arraylength) 1 pc2) (q0 t0 : Nat) (he : w[q0]? = some (a, .inl (cA, x))) (ht : (tg_T G)[t0]? = some (cA, ty)) (hv : Int32.ofNat x.1 = v) (kk : V l G Z E R own nm cc nL ret pc2 lv (.int v :: rest) w k n) : V l G Z E R own nm cc nL ret pc lv (.ref a :: rest) w k n := by
  intro p e s m args below meth c A C H locs hP hD hS ls hl
  obtain ⟨hd, rfl⟩ := d
  exact va_alen (D := G.1) C.1 C.2.1 C.2.2.2.2.2.2.2.2.2.1.1 hP q0 t0 he ht hv hd (kk p e s m args below meth c A C H locs hP hD hS ls hl)
theorem V_aald {a N : Nat} {f : Nat → Option Nat} {i : Int32} {v : Value} (d : Dc cc pc (.aaload) 1 pc2) (q0 : Nat) (he : w[q0]? = some (a, .inl (G.2.2.2.1, N, .inr (.inr (.inr (.inr f)))))) (hi : vp_in i N) (hv : va_rf (f i.toNatClampNeg) = v) (kk : V l G Z E R own nm cc nL ret pc2 lv (v :: rest) w k n) : V l G Z E R own nm cc nL ret pc lv (.int i :: .ref a :: rest) w k n := by
  intro p e s m args below meth c A C H locs hP hD hS ls hl
  obtain ⟨hd, rfl⟩ := d
  subst hv
  exact va_aldq (D := G.1) C.1 C.2.1 C.2.2.2.2.2.2.2.2.2.1.1 hP q0 2 he rfl hi hd (kk p e s m args below meth c A C H locs hP hD hS ls hl)
theorem V_aast {a N v : Nat} {vs : List Value} {f : Nat → Option Nat} {i : Int32} {w' : va_W} (d : Dc cc pc (.aastore) 1 pc2) (q0 qk : Nat) (he : w[q0]? = some (a, .inl (G.2.2.2.1, N, .inr (.inr (.inr (.inr f)))))) (hv : w[qk]? = some (v, .inr (5, vs))) (hi : vp_in i N) (hw : w.set q0 (a, .inl (G.2.2.2.1, N, .inr (.inr (.inr (.inr (va_up f i.toNatClampNeg (some v))))))) = w') (kk : V l G Z E R own nm cc nL ret pc2 lv rest w' k n) : V l G Z E R own nm cc nL ret pc lv (.ref v :: .int i :: .ref a :: rest) w k n := by
  intro p e s m args below meth c A C H locs hP hD hS ls hl
  obtain ⟨hd, rfl⟩ := d
  subst hw
  exact va_astq (D := G.1) (r := (RX5, TX5, 15)) C.1 C.2.1 C.2.2.2.2.2.2.2.2.2.1.1 hP hD hS q0 2 qk 5 he rfl hv rfl hi hd (fun H1 locs1 a1 a2 a3 => kk p e s m args below meth c A C H1 locs1 a1 a2 a3 ls hl)
theorem V_gcho {index : Nat} {host : String} (d : Dc cc pc (.getstatic index) 3 pc2) (hm : Cond.fieldLinkNest own index "TramGod" "CHOOSE" "[I" host ∈ tg_nest) (kk : V l G Z E R own nm cc nL ret pc2 lv (.ref G.2.2.2.2 :: rest) w k n) : V l G Z E R own nm cc nL ret pc lv rest w k n := by
  intro p e s m args below meth c A C H locs hP hD hS ls hl
  obtain ⟨hd, rfl⟩ := d
  exact va_getsN C.1 C.2.1 C.2.2.2.2.2.2.2.2.2.1.2.1 hS C.2.2.2.2.1 (va_Nw.use rfl (C.2.2.2.2.2.2.2.2.2.1.2.2.2.1 _ hm)) (fun _ h => h) hd (kk p e s m args below meth c A C H locs hP hD hS ls hl)
theorem V_acho {i : Int32} (d : Dc cc pc (.iaload) 1 pc2) (hi : vp_in i 84) (kk : V l G Z E R own nm cc nL ret pc2 lv (.int (tg_chf i.toNatClampNeg) :: rest) w k n) : V l G Z E R own nm cc nL ret pc lv (.int i :: .ref G.2.2.2.2 :: rest) w k n := by
  intro p e s m args below meth c A C H locs hP hD hS ls hl
  obtain ⟨hd, rfl⟩ := d
  exact va_ti C.1 C.2.1 C.2.2.2.2.2.2.2.2.2.1.2.2.1 hS hi rfl hd (kk p e s m args below meth c A C H locs hP hD hS ls hl)
theorem V_objInit {a index : Nat} (d : Dc cc pc (.invokespecial index) 3 pc2) (hm : Cond.methodLink own index Lib.objectInit ∈ tg_tbl) (h1 : Cond.instanceMethod Lib.objectInit ∈ tg_tbl) (h2 : Cond.code Lib.objectInit ⟨#[0xb1]⟩ 1 none ∈ tg_tbl) (hf : 1 ≤ R.frames) (hR : (rest.map fun v => v.category).sum + 12 ≤ R.locals) (kk : V l G Z E R own nm cc nL ret pc2 lv rest w k n) : V l G Z E R own nm cc nL ret pc lv (.ref a :: rest) w k n := by
  intro p e s m args below meth c A C H locs hP hD hS ls hl
  obtain ⟨hd, rfl⟩ := d
  refine W.objInit C.1 C.2.1 C.2.2.2.2.1 (C.2.2.2.2.2.1 _ hm) (C.2.2.2.2.2.1 _ h1) (C.2.2.2.2.2.1 _ h2) rfl (by rw [C.2.2.2.1]; exact hl.1) rfl hd hf (by simpa [JFrame.monitorRoom] using hR) ?_
  exact (kk p e s m args below meth c A C H locs hP hD hS ls hl)
/-- a method's end: what it answers and what the cells are -/
def tg_Qc (G : tg_G) (A : Nat → Prop) (Q : Option Value → va_W → Prop) : Array Value → State → Outcome → State → Prop := fun _ st oc t => (∃ (v : Option Value) (w' : va_W), oc = .returned v ∧ Q v w' ∧ va_P G.1 classes w' t.heap ∧ va_D A w') ∧ va_F A st t
def tg_Zm (G : tg_G) (Q : Option Value → va_W → Prop) (mc ms : Nat) : tg_Z := fun s args below A => MQ below (tg_Qc G A Q) args s mc ms A
def tg_E0 : tg_E := fun _ _ => True
theorem V_ret {v : Int32} {Q : Option Value → va_W → Prop} (d : Dc cc pc (.ireturn) 1 pc2) (hr : ret = some .int) (hq : Q (some (.int v)) w) : V l G (tg_Zm G Q k n) E R own nm cc nL ret pc lv [.int v] w k n := by
  intro p e s m args below meth c A C H locs hP hD hS ls hl
  obtain ⟨hd, rfl⟩ := d
  subst hr
  exact W.iret C.1 C.2.1 C.2.2.1 (fun t ht hW => ⟨⟨_, w, rfl, hq, by rw [ht]; exact hP, hD⟩, hS.F ht⟩) hS.2.2 hd C.2.2.2.2.2.2.1
theorem V_zret {v : Int32} {Q : Option Value → va_W → Prop} (d : Dc cc pc (.ireturn) 1 pc2) (hr : ret = some .boolean) (hv : narrow .boolean (.int v) = .int v) (hq : Q (some (.int v)) w) : V l G (tg_Zm G Q k n) E R own nm cc nL ret pc lv [.int v] w k n := by
  intro p e s m args below meth c A C H locs hP hD hS ls hl
  obtain ⟨hd, rfl⟩ := d
  subst hr
  exact W.zret C.1 C.2.1 C.2.2.1 hv (fun t ht hW => ⟨⟨_, w, rfl, hq, by rw [ht]; exact hP, hD⟩, hS.F ht⟩) hS.2.2 hd C.2.2.2.2.2.2.1
theorem V_lret {v : Int64} {Q : Option Value → va_W → Prop} (d : Dc cc pc (.lreturn) 1 pc2) (hr : ret = some .long) (hq : Q (some (.long v)) w) : V l G (tg_Zm G Q k n) E R own nm cc nL ret pc lv [.long v] w k n := by
  intro p e s m args below meth c A C H locs hP hD hS ls hl
  obtain ⟨hd, rfl⟩ := d
  subst hr
  exact W.lret C.1 C.2.1 C.2.2.1 (fun t ht hW => ⟨⟨_, w, rfl, hq, by rw [ht]; exact hP, hD⟩, hS.F ht⟩) hS.2.2 hd C.2.2.2.2.2.2.1
theorem V_vret {Q : Option Value → va_W → Prop} (d : Dc cc pc (.return_) 1 pc2) (hr : ret = none) (hq : Q none w) : V l G (tg_Zm G Q k n) E R own nm cc nL ret pc lv [] w k n := by
  intro p e s m args below meth c A C H locs hP hD hS ls hl
  obtain ⟨hd, rfl⟩ := d
  subst hr
  exact W.vret C.1 C.2.1 C.2.2.1 (fun t ht hW => ⟨⟨_, w, rfl, hq, by rw [ht]; exact hP, hD⟩, hS.F ht⟩) hS.2.2 hd C.2.2.2.2.2.2.1
theorem V_widen {k' n' : Nat} {st : List Value} (h1 : k ≤ k') (h2 : n ≤ n') (kk : V l G Z E R own nm cc nL ret pc lv st w k' n') : V l G Z E R own nm cc nL ret pc lv st w k n := by
  intro p e s m args below meth c A C H locs hP hD hS ls hl
  exact W.widen h1 h2 (kk p e s m args below meth c A C H locs hP hD hS ls hl)
theorem V_lv {lv' : List (Nat × Value)} {st : List Value} (ks : List Nat) (h : lv_pick lv ks = lv') (kk : V l G Z E R own nm cc nL ret pc lv' st w k n) : V l G Z E R own nm cc nL ret pc lv st w k n := by
  intro p e s m args below meth c A C H locs hP hD hS ls hl
  exact kk p e s m args below meth c A C H locs hP hD hS ls (lv_sub hl ks h)
theorem V_w {w' : va_W} {st : List Value} (is : List Nat) (hn : va_nd is = true) (h : is.map (fun i => w[i]?) = w'.map some) (kk : V l G Z E R own nm cc nL ret pc lv st w' k n) : V l G Z E R own nm cc nL ret pc lv st w k n := by
  intro p e s m args below meth c A C H locs hP hD hS ls hl
  refine kk p e s m args below meth c A C H locs (hP.sub is ?_) (hD.sub is hn h) hS ls hl
  have h2 := congrArg (fun q => q.filterMap id) h
  simpa [List.filterMap_map, Function.comp_def] using h2


theorem tg_nest_warm {s U : State} (hW : s.WarmedH U.vm) (h : ∀ x ∈ tg_nest, va_Nw x s) : ∀ x ∈ tg_nest, va_Nw x U := by
  have h' := h
  simp only [tg_nest, List.forall_mem_cons] at h ⊢
  obtain ⟨h1, h2, h3, h4, h5, h6, -⟩ := h
  exact ⟨h1.warmM hW, h2.warmM hW, h3.warmM hW, h4.warmM hW, h5.warmM hW, h6.warmF hW, fun _ h => absurd h List.not_mem_nil⟩
theorem tg_nest_same {s U : State} (hv : s.vm = U.vm) (h : ∀ x ∈ tg_nest, va_Nw x s) : ∀ x ∈ tg_nest, va_Nw x U := by
  simp only [tg_nest, List.forall_mem_cons] at h ⊢
  obtain ⟨h1, h2, h3, h4, h5, h6, -⟩ := h
  exact ⟨h1.same rfl hv, h2.same rfl hv, h3.same rfl hv, h4.same rfl hv, h5.same rfl hv, h6.same rfl hv, fun _ h => absurd h List.not_mem_nil⟩
/-- a method's start -/
def tg_Pc (G : tg_G) (w : va_W) (sz : Nat) (U : State) : Prop := U.heap.size = sz ∧ va_P G.1 classes w U.heap ∧ va_D (fun _ => True) w ∧ tg_K G (va_A w sz) U
/-- THE CONTRACT: from the world w, with these arguments, the method returns and Q holds of its answer and of the world behind it -/
def Mt (l : Launch) (G : tg_G) (y : MethodName) (cc : ByteArray) (nL : Nat) (ret : Option FieldType) (rm : Room) (args : List Value) (w : va_W) (Q : Option Value → va_W → Prop) : Prop :=
  ∀ sz : Nat, Met l y (Cond.code y cc nL ret :: tg_tbl) rm (va_Pc args (tg_Pc G w sz)) (tg_Qc G (va_A w sz) Q) rm.cells rm.slots (va_A w sz)
theorem Mt_of {y : MethodName} {rm : Room} {av : List Value} {Q : Option Value → va_W → Prop} (hy : plainName y.cls = true) (hls : (lg_sl av).length ≤ nL) {lv : List (Nat × Value)} (hlv : lv_args 0 av = lv) (kk : V l G (tg_Zm G Q rm.cells rm.slots) tg_E0 rm y.cls y.name cc nL ret 0 lv [] w 0 0) : Mt l G y cc nL ret rm av w Q := by
  intro sz
  refine Met.ofW (cc := cc) (maxL := nL) (ret := ret) hy rfl ?_
  intro p e s m args below meth c s₁ B hml hv
  obtain ⟨rfl, hsz, hP, hD0, hK⟩ := hv
  subst hsz
  have hts := atoms_spec (ws := Cond.code y cc nL ret :: tg_tbl) B.pre
  have hown : s.vm.findClass y.cls = some m.cls := findClass_of_methodNamed B.named
  have hnm : meth.name = y.name := (name_of_methodNamed B.named B.method).1
  have hl := lv_entry av (n := nL) hls
  rw [hlv] at hl
  rw [lg_entry_eq]
  exact kk p e s m _ below meth c (va_A w s.heap.size) ⟨B.exec, B.bytes, B.returns, hml, hown, fun w hw => hts w (List.mem_cons_of_mem _ hw), B.notSynchronized, fun q h => Or.inr h, hnm, hK, trivial⟩ s.heap [] hP (hD0.self) va_S.rf _ hl
theorem tg_blind {av : List Value} {sz : Nat} : FrameBlind (va_Pc av (tg_Pc G w sz)) := by
  intro a U g mk q
  obtain ⟨q0, q1, q2, q3, q4, q5, q6, q7, q8⟩ := q
  exact ⟨q0, q1, q2, q3, va_K.moved (u := U) (U := U.calling g mk a) (Vm.Alike.refl U.vm) q4, q5, q6, tg_nest_same (s := U) (U := U.calling g mk a) rfl q7, va_AO.moved (u := U) (U := U.calling g mk a) (Vm.Alike.refl U.vm) q8⟩
/-- what the callee finds -/
theorem tg_pc {A : Nat → Prop} {s U : State} {H : Heap} {locs : List Loc} {wc : va_W} (hK : tg_K G A s) (hS : va_S A s.heap H locs) (hA : ∀ q, va_A wc H.size q → A q) (hP : va_P G.1 classes wc H) (hD : va_D (fun _ => True) wc) (hU : U.heap = H) (hW : s.WarmedH U.vm) : tg_Pc G wc H.size U := by
  obtain ⟨k1, k2, k3, k4, k5⟩ := hK
  refine ⟨by rw [hU], by rw [hU]; exact hP, hD, va_K.moved hW.alike k1, ?_, ?_, tg_nest_warm hW k4, va_AO.moved hW.alike k5⟩
  · have h1 := (va_Z.moved hW.alike k2).kept (H1 := U.heap) (fun a h1 h2 => by rw [hU]; exact hS.2.1 a h1 h2)
    exact h1.narrow hA
  · have h1 := (va_T.moved hW.alike k3).kept (H1 := U.heap) (fun a h1 h2 => by rw [hU]; exact hS.2.1 a h1 h2)
    exact h1.narrow hA


/-- behind a call: the rest of the world beside what came back -/
theorem V_after {p : Program} {e : Env} {s : State} {m : MethodId} {args : Array Value} {below : List Frame} {meth : Method} {c : Code} {A : Nat → Prop} {H : Heap} {locs : List Loc} {ls : Array Slot} {wc wr : va_W} {st0 : List Value} {mc ms : Nat} {a : Array Value} {Q : Option Value → va_W → Prop}
    (C : tg_C G E own nm cc nL ret A p s m args meth c) (hP : va_P G.1 classes w H) (hD : va_D A w) (hS : va_S A s.heap H locs) (hl : lv_has ls nL lv)
    (isC isR : List Nat) (hC : isC.map (fun i => w[i]?) = wc.map some) (hR : isR.map (fun i => w[i]?) = wr.map some) (hn : va_nd isR = true) (hdis : ∀ i ∈ isR, i ∉ isC)
    (hr : va_Run p l e R s m args below meth c H locs k n mc ms (F0 m pc ls st0) rest (tg_Qc G (va_A wc H.size) Q a) (va_A wc H.size))
    (kk : ∀ (v : Option Value) (w1 : va_W), Q v w1 → V l G Z E R own nm cc nL ret (pc + 3) lv (v.toList ++ rest) (wr ++ w1) (k + mc) (n + ms)) : W p l e R s m args below meth c H locs k n (Z s args below A) (F0 m pc ls st0) := by
  intro T hT X
  have hA := C.2.2.2.2.2.2.2.1
  have hF := va_free (wc := wc) hD hS hA isC hC
  obtain ⟨v, st₀, t, T', L, h0, X', hL, e1, e2, ⟨⟨v', w1, hv, hq, hP1, hD1⟩, hz, hk⟩, st⟩ := hr T hT X
  cases hv
  rw [h0] at hz hk
  rw [← e1] at hP1 hz hk
  obtain ⟨hP2, hD2⟩ := va_join hP hD isC isR hC hR hn hdis hk hF hP1 hD1
  have hS2 : va_S A s.heap T'.heap (locs ++ L) := ⟨Nat.le_trans hS.1 hz, fun q h1 h2 => by rw [hk q (Nat.lt_of_lt_of_le h1 hS.1) (fun z => h2 (hF q z))]; exact hS.2.1 q h1 h2, fun q hq => by
      rcases List.mem_append.mp hq with h | h
      · exact hS.2.2 q h
      · exact hF _ (hL q h)⟩
  obtain ⟨t2, a1, b1⟩ := kk v w1 hq p e s m args below meth c A C T'.heap (locs ++ L) hP2 hD2 hS2 ls hl T' rfl X'
  exact ⟨t2, st t2 a1, b1⟩
theorem tg_map (w : va_W) : (List.range w.length).map (fun i => w[i]?) = w.map some := by
  apply List.ext_getElem?
  intro i
  by_cases h : i < w.length
  · simp [h]
  · simp [h]
theorem tg_good {y : MethodName} {c2 : ByteArray} {n2 : Nat} {r2 : Option FieldType} (h : Cond.code y c2 n2 r2 ∈ tg_tbl) : GoodIn tg_tbl (Cond.code y c2 n2 r2 :: tg_tbl) := by
  intro w hw
  have hm : w ∈ tg_tbl := by
    rcases List.mem_cons.mp hw with rfl | h2
    · exact h
    · exact h2
  exact ⟨hm, good_of_word (List.mem_filter.mp hm).2⟩

theorem V_callV {y : MethodName} {c2 : ByteArray} {n2 na index : Nat} {r2 : Option FieldType} {rm : Room} {As : List Value} {st : List Value} {Q : Option Value → va_W → Prop} {b : Nat} {ci : Nat} {fs : List Value} {r : vw_C} (d : Dc cc pc (.invokevirtual index) 3 pc2) (hM : Mt l G y c2 n2 r2 rm (.ref b :: As) w Q) (hcode : Cond.code y c2 n2 r2 ∈ tg_tbl) (hlink : Cond.methodLink own index y ∈ tg_tbl) (hini : Cond.initialized y.cls ∈ tg_tbl) (hin : Cond.instanceMethod y ∈ tg_tbl) (hsel : Cond.selects r.1 y y ∈ tg_tbl) (q0 : Nat) (hq : w[q0]? = some (b, .inr (ci, fs))) (hci : classes[ci]? = some r) (hd2 : y.cls ≠ "java/lang/invoke/MethodHandle" ∧ y.cls ≠ "java/lang/invoke/VarHandle" ∧ (parseMethodDescriptor y.desc).map (fun d => d.parameters.length) = some na) (hna : As.length = na) (hR : rm.frames + 1 ≤ R.frames ∧ 8 + (n2 + 11) + rm.locals ≤ R.locals) (hcs : k + rm.cells ≤ R.cells ∧ n + rm.slots ≤ R.slots) (hst : (As.reverse ++ .ref b :: rest) = st) (hroom : (rest.map fun v => v.category).sum ≤ 8) (kk : ∀ (v : Option Value) (w1 : va_W), Q v w1 → V l G Z E R own nm cc nL ret pc2 lv (v.toList ++ rest) w1 (k + rm.cells) (n + rm.slots)) : V l G Z E R own nm cc nL ret pc lv st w k n := by
  intro p e s m args below meth c A C H locs hP hD hS ls hl
  obtain ⟨hd, rfl⟩ := d
  subst hst
  have hts := C.2.2.2.2.2.1
  have hPc := hP
  have hDc := hD
  have hF := va_free (wc := w) hD hS C.2.2.2.2.2.2.2.1 (List.range w.length) (tg_map w)
  have hrun := va_runV (g := F0 m pc ls ((As.reverse ++ .ref b :: rest))) (locs := locs) (cells := k) (slots := n) (e := e) (below := below) (meth := meth) ⟨C.1, C.2.1, C.2.2.2.1, C.2.2.2.2.1, hts⟩ (hM H.size) (⟨callB_of na hts (tg_good hcode) rfl rfl rfl (hts _ hini) (hts _ hlink) hd2 hR, hts _ hin, hts _ hsel⟩) (⟨tg_blind, va_recv C.2.2.2.2.2.2.2.2.2.1.1 hP hci hq, fun U hU hW => ⟨rfl, tg_pc C.2.2.2.2.2.2.2.2.2.1 hS hF hPc (hDc.weaken (fun _ _ _ _ => trivial)) hU hW⟩⟩) rfl hna hl.1 rfl (lv_room hroom) hd hcs
  exact V_after (wr := []) C hP hD hS hl (List.range w.length) [] (tg_map w) rfl rfl (fun _ h => absurd h List.not_mem_nil) hrun kk
theorem V_callVF {y : MethodName} {c2 : ByteArray} {n2 na index : Nat} {r2 : Option FieldType} {rm : Room} {As : List Value} {st : List Value} {Q : Option Value → va_W → Prop} {b : Nat} {ci : Nat} {fs : List Value} {r : vw_C} {wc wr : va_W} (d : Dc cc pc (.invokevirtual index) 3 pc2) (hM : Mt l G y c2 n2 r2 rm (.ref b :: As) wc Q) (hcode : Cond.code y c2 n2 r2 ∈ tg_tbl) (hlink : Cond.methodLink own index y ∈ tg_tbl) (hini : Cond.initialized y.cls ∈ tg_tbl) (hin : Cond.instanceMethod y ∈ tg_tbl) (hsel : Cond.selects r.1 y y ∈ tg_tbl) (q0 : Nat) (hq : w[q0]? = some (b, .inr (ci, fs))) (hci : classes[ci]? = some r) (hd2 : y.cls ≠ "java/lang/invoke/MethodHandle" ∧ y.cls ≠ "java/lang/invoke/VarHandle" ∧ (parseMethodDescriptor y.desc).map (fun d => d.parameters.length) = some na) (hna : As.length = na) (hR : rm.frames + 1 ≤ R.frames ∧ 8 + (n2 + 11) + rm.locals ≤ R.locals) (hcs : k + rm.cells ≤ R.cells ∧ n + rm.slots ≤ R.slots) (hst : (As.reverse ++ .ref b :: rest) = st) (hroom : (rest.map fun v => v.category).sum ≤ 8) (isC isR : List Nat) (hC : isC.map (fun i => w[i]?) = wc.map some) (hR2 : isR.map (fun i => w[i]?) = wr.map some) (hnC : va_nd isC = true) (hn : va_nd isR = true) (hdis : ∀ i ∈ isR, i ∉ isC) (kk : ∀ (v : Option Value) (w1 : va_W), Q v w1 → V l G Z E R own nm cc nL ret pc2 lv (v.toList ++ rest) (wr ++ w1) (k + rm.cells) (n + rm.slots)) : V l G Z E R own nm cc nL ret pc lv st w k n := by
  intro p e s m args below meth c A C H locs hP hD hS ls hl
  obtain ⟨hd, rfl⟩ := d
  subst hst
  have hts := C.2.2.2.2.2.1
  have hCs : wc.map some = isC.map (fun i => w[i]?) := hC.symm
  have hPc : va_P G.1 classes wc H := hP.sub isC (by have h2 := congrArg (fun q => q.filterMap id) hC; simpa [List.filterMap_map, Function.comp_def] using h2)
  have hDc : va_D A wc := hD.sub isC hnC hC
  have hF := va_free (wc := wc) hD hS C.2.2.2.2.2.2.2.1 isC hC
  have hrun := va_runV (g := F0 m pc ls ((As.reverse ++ .ref b :: rest))) (locs := locs) (cells := k) (slots := n) (e := e) (below := below) (meth := meth) ⟨C.1, C.2.1, C.2.2.2.1, C.2.2.2.2.1, hts⟩ (hM H.size) (⟨callB_of na hts (tg_good hcode) rfl rfl rfl (hts _ hini) (hts _ hlink) hd2 hR, hts _ hin, hts _ hsel⟩) (⟨tg_blind, va_recv C.2.2.2.2.2.2.2.2.2.1.1 hP hci hq, fun U hU hW => ⟨rfl, tg_pc C.2.2.2.2.2.2.2.2.2.1 hS hF hPc (hDc.weaken (fun _ _ _ _ => trivial)) hU hW⟩⟩) rfl hna hl.1 rfl (lv_room hroom) hd hcs
  exact V_after C hP hD hS hl isC isR hC hR2 hn hdis hrun kk
theorem V_callS {y : MethodName} {c2 : ByteArray} {n2 na index : Nat} {r2 : Option FieldType} {rm : Room} {As : List Value} {st : List Value} {Q : Option Value → va_W → Prop} (d : Dc cc pc (.invokestatic index) 3 pc2) (hM : Mt l G y c2 n2 r2 rm As w Q) (hcode : Cond.code y c2 n2 r2 ∈ tg_tbl) (hlink : Cond.methodLink own index y ∈ tg_tbl) (hini : Cond.initialized y.cls ∈ tg_tbl) (hin : Cond.static y ∈ tg_tbl) (hd2 : y.cls ≠ "java/lang/invoke/MethodHandle" ∧ y.cls ≠ "java/lang/invoke/VarHandle" ∧ (parseMethodDescriptor y.desc).map (fun d => d.parameters.length) = some na) (hna : As.length = na) (hR : rm.frames + 1 ≤ R.frames ∧ 8 + (n2 + 11) + rm.locals ≤ R.locals) (hcs : k + rm.cells ≤ R.cells ∧ n + rm.slots ≤ R.slots) (hst : (As.reverse ++ rest) = st) (hroom : (rest.map fun v => v.category).sum ≤ 8) (kk : ∀ (v : Option Value) (w1 : va_W), Q v w1 → V l G Z E R own nm cc nL ret pc2 lv (v.toList ++ rest) w1 (k + rm.cells) (n + rm.slots)) : V l G Z E R own nm cc nL ret pc lv st w k n := by
  intro p e s m args below meth c A C H locs hP hD hS ls hl
  obtain ⟨hd, rfl⟩ := d
  subst hst
  have hts := C.2.2.2.2.2.1
  have hPc := hP
  have hDc := hD
  have hF := va_free (wc := w) hD hS C.2.2.2.2.2.2.2.1 (List.range w.length) (tg_map w)
  have hrun := va_runS (g := F0 m pc ls ((As.reverse ++ rest))) (locs := locs) (cells := k) (slots := n) (e := e) (below := below) (meth := meth) ⟨C.1, C.2.1, C.2.2.2.1, C.2.2.2.2.1, hts⟩ (hM H.size) (⟨callB_of na hts (tg_good hcode) rfl rfl rfl (hts _ hini) (hts _ hlink) hd2 hR, hts _ hin⟩) (⟨tg_blind, fun U hU hW => ⟨rfl, tg_pc C.2.2.2.2.2.2.2.2.2.1 hS hF hPc (hDc.weaken (fun _ _ _ _ => trivial)) hU hW⟩⟩) rfl hna hl.1 rfl (lv_room hroom) hd hcs
  exact V_after (wr := []) C hP hD hS hl (List.range w.length) [] (tg_map w) rfl rfl (fun _ h => absurd h List.not_mem_nil) hrun kk
theorem V_callSF {y : MethodName} {c2 : ByteArray} {n2 na index : Nat} {r2 : Option FieldType} {rm : Room} {As : List Value} {st : List Value} {Q : Option Value → va_W → Prop} {wc wr : va_W} (d : Dc cc pc (.invokestatic index) 3 pc2) (hM : Mt l G y c2 n2 r2 rm As wc Q) (hcode : Cond.code y c2 n2 r2 ∈ tg_tbl) (hlink : Cond.methodLink own index y ∈ tg_tbl) (hini : Cond.initialized y.cls ∈ tg_tbl) (hin : Cond.static y ∈ tg_tbl) (hd2 : y.cls ≠ "java/lang/invoke/MethodHandle" ∧ y.cls ≠ "java/lang/invoke/VarHandle" ∧ (parseMethodDescriptor y.desc).map (fun d => d.parameters.length) = some na) (hna : As.length = na) (hR : rm.frames + 1 ≤ R.frames ∧ 8 + (n2 + 11) + rm.locals ≤ R.locals) (hcs : k + rm.cells ≤ R.cells ∧ n + rm.slots ≤ R.slots) (hst : (As.reverse ++ rest) = st) (hroom : (rest.map fun v => v.category).sum ≤ 8) (isC isR : List Nat) (hC : isC.map (fun i => w[i]?) = wc.map some) (hR2 : isR.map (fun i => w[i]?) = wr.map some) (hnC : va_nd isC = true) (hn : va_nd isR = true) (hdis : ∀ i ∈ isR, i ∉ isC) (kk : ∀ (v : Option Value) (w1 : va_W), Q v w1 → V l G Z E R own nm cc nL ret pc2 lv (v.toList ++ rest) (wr ++ w1) (k + rm.cells) (n + rm.slots)) : V l G Z E R own nm cc nL ret pc lv st w k n := by
  intro p e s m args below meth c A C H locs hP hD hS ls hl
  obtain ⟨hd, rfl⟩ := d
  subst hst
  have hts := C.2.2.2.2.2.1
  have hCs : wc.map some = isC.map (fun i => w[i]?) := hC.symm
  have hPc : va_P G.1 classes wc H := hP.sub isC (by have h2 := congrArg (fun q => q.filterMap id) hC; simpa [List.filterMap_map, Function.comp_def] using h2)
  have hDc : va_D A wc := hD.sub isC hnC hC
  have hF := va_free (wc := wc) hD hS C.2.2.2.2.2.2.2.1 isC hC
  have hrun := va_runS (g := F0 m pc ls ((As.reverse ++ rest))) (locs := locs) (cells := k) (slots := n) (e := e) (below := below) (meth := meth) ⟨C.1, C.2.1, C.2.2.2.1, C.2.2.2.2.1, hts⟩ (hM H.size) (⟨callB_of na hts (tg_good hcode) rfl rfl rfl (hts _ hini) (hts _ hlink) hd2 hR, hts _ hin⟩) (⟨tg_blind, fun U hU hW => ⟨rfl, tg_pc C.2.2.2.2.2.2.2.2.2.1 hS hF hPc (hDc.weaken (fun _ _ _ _ => trivial)) hU hW⟩⟩) rfl hna hl.1 rfl (lv_room hroom) hd hcs
  exact V_after C hP hD hS hl isC isR hC hR2 hn hdis hrun kk
theorem V_callSN {y : MethodName} {c2 : ByteArray} {n2 na index : Nat} {r2 : Option FieldType} {rm : Room} {As : List Value} {st : List Value} {Q : Option Value → va_W → Prop} {host : String} (d : Dc cc pc (.invokestatic index) 3 pc2) (hM : Mt l G y c2 n2 r2 rm As w Q) (hcode : Cond.code y c2 n2 r2 ∈ tg_tbl) (hlink : Cond.methodLinkNest own index y host ∈ tg_nest) (hini : Cond.initialized y.cls ∈ tg_tbl) (hin : Cond.static y ∈ tg_tbl) (hd2 : y.cls ≠ "java/lang/invoke/MethodHandle" ∧ y.cls ≠ "java/lang/invoke/VarHandle" ∧ (parseMethodDescriptor y.desc).map (fun d => d.parameters.length) = some na) (hna : As.length = na) (hR : rm.frames + 1 ≤ R.frames ∧ 8 + (n2 + 11) + rm.locals ≤ R.locals) (hcs : k + rm.cells ≤ R.cells ∧ n + rm.slots ≤ R.slots) (hst : (As.reverse ++ rest) = st) (hroom : (rest.map fun v => v.category).sum ≤ 8) (kk : ∀ (v : Option Value) (w1 : va_W), Q v w1 → V l G Z E R own nm cc nL ret pc2 lv (v.toList ++ rest) w1 (k + rm.cells) (n + rm.slots)) : V l G Z E R own nm cc nL ret pc lv st w k n := by
  intro p e s m args below meth c A C H locs hP hD hS ls hl
  obtain ⟨hd, rfl⟩ := d
  subst hst
  have hts := C.2.2.2.2.2.1
  have hPc := hP
  have hDc := hD
  have hF := va_free (wc := w) hD hS C.2.2.2.2.2.2.2.1 (List.range w.length) (tg_map w)
  have hrun := va_runSN (g := F0 m pc ls ((As.reverse ++ rest))) (locs := locs) (cells := k) (slots := n) (e := e) (below := below) (meth := meth) ⟨C.1, C.2.1, C.2.2.2.1, C.2.2.2.2.1, hts⟩ (hM H.size) (⟨va_cnB na hts (tg_good hcode) rfl rfl rfl (C.2.2.2.2.2.2.2.2.2.1.2.2.2.1 _ hlink) (hts _ hini) hd2 hR, hts _ hin, trivial⟩) (⟨tg_blind, fun U hU hW => ⟨rfl, tg_pc C.2.2.2.2.2.2.2.2.2.1 hS hF hPc (hDc.weaken (fun _ _ _ _ => trivial)) hU hW⟩⟩) rfl hna hl.1 rfl (lv_room hroom) hd hcs
  exact V_after (wr := []) C hP hD hS hl (List.range w.length) [] (tg_map w) rfl rfl (fun _ h => absurd h List.not_mem_nil) hrun kk
theorem V_callSNF {y : MethodName} {c2 : ByteArray} {n2 na index : Nat} {r2 : Option FieldType} {rm : Room} {As : List Value} {st : List Value} {Q : Option Value → va_W → Prop} {host : String} {wc wr : va_W} (d : Dc cc pc (.invokestatic index) 3 pc2) (hM : Mt l G y c2 n2 r2 rm As wc Q) (hcode : Cond.code y c2 n2 r2 ∈ tg_tbl) (hlink : Cond.methodLinkNest own index y host ∈ tg_nest) (hini : Cond.initialized y.cls ∈ tg_tbl) (hin : Cond.static y ∈ tg_tbl) (hd2 : y.cls ≠ "java/lang/invoke/MethodHandle" ∧ y.cls ≠ "java/lang/invoke/VarHandle" ∧ (parseMethodDescriptor y.desc).map (fun d => d.parameters.length) = some na) (hna : As.length = na) (hR : rm.frames + 1 ≤ R.frames ∧ 8 + (n2 + 11) + rm.locals ≤ R.locals) (hcs : k + rm.cells ≤ R.cells ∧ n + rm.slots ≤ R.slots) (hst : (As.reverse ++ rest) = st) (hroom : (rest.map fun v => v.category).sum ≤ 8) (isC isR : List Nat) (hC : isC.map (fun i => w[i]?) = wc.map some) (hR2 : isR.map (fun i => w[i]?) = wr.map some) (hnC : va_nd isC = true) (hn : va_nd isR = true) (hdis : ∀ i ∈ isR, i ∉ isC) (kk : ∀ (v : Option Value) (w1 : va_W), Q v w1 → V l G Z E R own nm cc nL ret pc2 lv (v.toList ++ rest) (wr ++ w1) (k + rm.cells) (n + rm.slots)) : V l G Z E R own nm cc nL ret pc lv st w k n := by
  intro p e s m args below meth c A C H locs hP hD hS ls hl
  obtain ⟨hd, rfl⟩ := d
  subst hst
  have hts := C.2.2.2.2.2.1
  have hCs : wc.map some = isC.map (fun i => w[i]?) := hC.symm
  have hPc : va_P G.1 classes wc H := hP.sub isC (by have h2 := congrArg (fun q => q.filterMap id) hC; simpa [List.filterMap_map, Function.comp_def] using h2)
  have hDc : va_D A wc := hD.sub isC hnC hC
  have hF := va_free (wc := wc) hD hS C.2.2.2.2.2.2.2.1 isC hC
  have hrun := va_runSN (g := F0 m pc ls ((As.reverse ++ rest))) (locs := locs) (cells := k) (slots := n) (e := e) (below := below) (meth := meth) ⟨C.1, C.2.1, C.2.2.2.1, C.2.2.2.2.1, hts⟩ (hM H.size) (⟨va_cnB na hts (tg_good hcode) rfl rfl rfl (C.2.2.2.2.2.2.2.2.2.1.2.2.2.1 _ hlink) (hts _ hini) hd2 hR, hts _ hin, trivial⟩) (⟨tg_blind, fun U hU hW => ⟨rfl, tg_pc C.2.2.2.2.2.2.2.2.2.1 hS hF hPc (hDc.weaken (fun _ _ _ _ => trivial)) hU hW⟩⟩) rfl hna hl.1 rfl (lv_room hroom) hd hcs
  exact V_after C hP hD hS hl isC isR hC hR2 hn hdis hrun kk
theorem V_callI {y : MethodName} {c2 : ByteArray} {n2 na index : Nat}  {rm : Room} {As : List Value} {st : List Value} {Q : Option Value → va_W → Prop} {b : Nat} (d : Dc cc pc (.invokespecial index) 3 pc2) (hM : Mt l G y c2 n2 none rm (.ref b :: As) w Q) (hcode : Cond.code y c2 n2 none ∈ tg_tbl) (hlink : Cond.methodLink own index y ∈ tg_tbl) (hini : Cond.initialized y.cls ∈ tg_tbl) (hin : Cond.instanceMethod y ∈ tg_tbl) (hy1 : y.name = "<init>") (hd2 : y.cls ≠ "java/lang/invoke/MethodHandle" ∧ y.cls ≠ "java/lang/invoke/VarHandle" ∧ (parseMethodDescriptor y.desc).map (fun d => d.parameters.length) = some na) (hna : As.length = na) (hR : rm.frames + 1 ≤ R.frames ∧ 8 + (n2 + 11) + rm.locals ≤ R.locals) (hcs : k + rm.cells ≤ R.cells ∧ n + rm.slots ≤ R.slots) (hst : (As.reverse ++ .ref b :: rest) = st) (hroom : (rest.map fun v => v.category).sum ≤ 8) (kk : ∀ (v : Option Value) (w1 : va_W), Q v w1 → V l G Z E R own nm cc nL ret pc2 lv (v.toList ++ rest) w1 (k + rm.cells) (n + rm.slots)) : V l G Z E R own nm cc nL ret pc lv st w k n := by
  intro p e s m args below meth c A C H locs hP hD hS ls hl
  obtain ⟨hd, rfl⟩ := d
  subst hst
  have hts := C.2.2.2.2.2.1
  have hPc := hP
  have hDc := hD
  have hF := va_free (wc := w) hD hS C.2.2.2.2.2.2.2.1 (List.range w.length) (tg_map w)
  have hrun := va_runI (g := F0 m pc ls ((As.reverse ++ .ref b :: rest))) (locs := locs) (cells := k) (slots := n) (e := e) (below := below) (meth := meth) ⟨C.1, C.2.1, C.2.2.2.1, C.2.2.2.2.1, hts⟩ (hM H.size) (⟨callB_of na hts (tg_good hcode) rfl rfl rfl (hts _ hini) (hts _ hlink) hd2 hR, hy1, hts _ hin⟩) (⟨tg_blind, fun U hU hW => ⟨rfl, tg_pc C.2.2.2.2.2.2.2.2.2.1 hS hF hPc (hDc.weaken (fun _ _ _ _ => trivial)) hU hW⟩⟩) rfl hna hl.1 rfl (lv_room hroom) hd hcs
  exact V_after (wr := []) C hP hD hS hl (List.range w.length) [] (tg_map w) rfl rfl (fun _ h => absurd h List.not_mem_nil) hrun kk
theorem V_callIF {y : MethodName} {c2 : ByteArray} {n2 na index : Nat}  {rm : Room} {As : List Value} {st : List Value} {Q : Option Value → va_W → Prop} {b : Nat} {wc wr : va_W} (d : Dc cc pc (.invokespecial index) 3 pc2) (hM : Mt l G y c2 n2 none rm (.ref b :: As) wc Q) (hcode : Cond.code y c2 n2 none ∈ tg_tbl) (hlink : Cond.methodLink own index y ∈ tg_tbl) (hini : Cond.initialized y.cls ∈ tg_tbl) (hin : Cond.instanceMethod y ∈ tg_tbl) (hy1 : y.name = "<init>") (hd2 : y.cls ≠ "java/lang/invoke/MethodHandle" ∧ y.cls ≠ "java/lang/invoke/VarHandle" ∧ (parseMethodDescriptor y.desc).map (fun d => d.parameters.length) = some na) (hna : As.length = na) (hR : rm.frames + 1 ≤ R.frames ∧ 8 + (n2 + 11) + rm.locals ≤ R.locals) (hcs : k + rm.cells ≤ R.cells ∧ n + rm.slots ≤ R.slots) (hst : (As.reverse ++ .ref b :: rest) = st) (hroom : (rest.map fun v => v.category).sum ≤ 8) (isC isR : List Nat) (hC : isC.map (fun i => w[i]?) = wc.map some) (hR2 : isR.map (fun i => w[i]?) = wr.map some) (hnC : va_nd isC = true) (hn : va_nd isR = true) (hdis : ∀ i ∈ isR, i ∉ isC) (kk : ∀ (v : Option Value) (w1 : va_W), Q v w1 → V l G Z E R own nm cc nL ret pc2 lv (v.toList ++ rest) (wr ++ w1) (k + rm.cells) (n + rm.slots)) : V l G Z E R own nm cc nL ret pc lv st w k n := by
  intro p e s m args below meth c A C H locs hP hD hS ls hl
  obtain ⟨hd, rfl⟩ := d
  subst hst
  have hts := C.2.2.2.2.2.1
  have hCs : wc.map some = isC.map (fun i => w[i]?) := hC.symm
  have hPc : va_P G.1 classes wc H := hP.sub isC (by have h2 := congrArg (fun q => q.filterMap id) hC; simpa [List.filterMap_map, Function.comp_def] using h2)
  have hDc : va_D A wc := hD.sub isC hnC hC
  have hF := va_free (wc := wc) hD hS C.2.2.2.2.2.2.2.1 isC hC
  have hrun := va_runI (g := F0 m pc ls ((As.reverse ++ .ref b :: rest))) (locs := locs) (cells := k) (slots := n) (e := e) (below := below) (meth := meth) ⟨C.1, C.2.1, C.2.2.2.1, C.2.2.2.2.1, hts⟩ (hM H.size) (⟨callB_of na hts (tg_good hcode) rfl rfl rfl (hts _ hini) (hts _ hlink) hd2 hR, hy1, hts _ hin⟩) (⟨tg_blind, fun U hU hW => ⟨rfl, tg_pc C.2.2.2.2.2.2.2.2.2.1 hS hF hPc (hDc.weaken (fun _ _ _ _ => trivial)) hU hW⟩⟩) rfl hna hl.1 rfl (lv_room hroom) hd hcs
  exact V_after C hP hD hS hl isC isR hC hR2 hn hdis hrun kk
theorem V_callIN {y : MethodName} {c2 : ByteArray} {n2 na index : Nat}  {rm : Room} {As : List Value} {st : List Value} {Q : Option Value → va_W → Prop} {b : Nat} {host : String} (d : Dc cc pc (.invokespecial index) 3 pc2) (hM : Mt l G y c2 n2 none rm (.ref b :: As) w Q) (hcode : Cond.code y c2 n2 none ∈ tg_tbl) (hlink : Cond.methodLinkNest own index y host ∈ tg_nest) (hini : Cond.initialized y.cls ∈ tg_tbl) (hin : Cond.instanceMethod y ∈ tg_tbl) (hy1 : y.name = "<init>") (hd2 : y.cls ≠ "java/lang/invoke/MethodHandle" ∧ y.cls ≠ "java/lang/invoke/VarHandle" ∧ (parseMethodDescriptor y.desc).map (fun d => d.parameters.length) = some na) (hna : As.length = na) (hR : rm.frames + 1 ≤ R.frames ∧ 8 + (n2 + 11) + rm.locals ≤ R.locals) (hcs : k + rm.cells ≤ R.cells ∧ n + rm.slots ≤ R.slots) (hst : (As.reverse ++ .ref b :: rest) = st) (hroom : (rest.map fun v => v.category).sum ≤ 8) (kk : ∀ (v : Option Value) (w1 : va_W), Q v w1 → V l G Z E R own nm cc nL ret pc2 lv (v.toList ++ rest) w1 (k + rm.cells) (n + rm.slots)) : V l G Z E R own nm cc nL ret pc lv st w k n := by
  intro p e s m args below meth c A C H locs hP hD hS ls hl
  obtain ⟨hd, rfl⟩ := d
  subst hst
  have hts := C.2.2.2.2.2.1
  have hPc := hP
  have hDc := hD
  have hF := va_free (wc := w) hD hS C.2.2.2.2.2.2.2.1 (List.range w.length) (tg_map w)
  have hrun := va_runIN (g := F0 m pc ls ((As.reverse ++ .ref b :: rest))) (locs := locs) (cells := k) (slots := n) (e := e) (below := below) (meth := meth) ⟨C.1, C.2.1, C.2.2.2.1, C.2.2.2.2.1, hts⟩ (hM H.size) (⟨va_cnB na hts (tg_good hcode) rfl rfl rfl (C.2.2.2.2.2.2.2.2.2.1.2.2.2.1 _ hlink) (hts _ hini) hd2 hR, hy1, hts _ hin⟩) (⟨tg_blind, fun U hU hW => ⟨rfl, tg_pc C.2.2.2.2.2.2.2.2.2.1 hS hF hPc (hDc.weaken (fun _ _ _ _ => trivial)) hU hW⟩⟩) rfl hna hl.1 rfl (lv_room hroom) hd hcs
  exact V_after (wr := []) C hP hD hS hl (List.range w.length) [] (tg_map w) rfl rfl (fun _ h => absurd h List.not_mem_nil) hrun kk
theorem V_callINF {y : MethodName} {c2 : ByteArray} {n2 na index : Nat}  {rm : Room} {As : List Value} {st : List Value} {Q : Option Value → va_W → Prop} {b : Nat} {host : String} {wc wr : va_W} (d : Dc cc pc (.invokespecial index) 3 pc2) (hM : Mt l G y c2 n2 none rm (.ref b :: As) wc Q) (hcode : Cond.code y c2 n2 none ∈ tg_tbl) (hlink : Cond.methodLinkNest own index y host ∈ tg_nest) (hini : Cond.initialized y.cls ∈ tg_tbl) (hin : Cond.instanceMethod y ∈ tg_tbl) (hy1 : y.name = "<init>") (hd2 : y.cls ≠ "java/lang/invoke/MethodHandle" ∧ y.cls ≠ "java/lang/invoke/VarHandle" ∧ (parseMethodDescriptor y.desc).map (fun d => d.parameters.length) = some na) (hna : As.length = na) (hR : rm.frames + 1 ≤ R.frames ∧ 8 + (n2 + 11) + rm.locals ≤ R.locals) (hcs : k + rm.cells ≤ R.cells ∧ n + rm.slots ≤ R.slots) (hst : (As.reverse ++ .ref b :: rest) = st) (hroom : (rest.map fun v => v.category).sum ≤ 8) (isC isR : List Nat) (hC : isC.map (fun i => w[i]?) = wc.map some) (hR2 : isR.map (fun i => w[i]?) = wr.map some) (hnC : va_nd isC = true) (hn : va_nd isR = true) (hdis : ∀ i ∈ isR, i ∉ isC) (kk : ∀ (v : Option Value) (w1 : va_W), Q v w1 → V l G Z E R own nm cc nL ret pc2 lv (v.toList ++ rest) (wr ++ w1) (k + rm.cells) (n + rm.slots)) : V l G Z E R own nm cc nL ret pc lv st w k n := by
  intro p e s m args below meth c A C H locs hP hD hS ls hl
  obtain ⟨hd, rfl⟩ := d
  subst hst
  have hts := C.2.2.2.2.2.1
  have hCs : wc.map some = isC.map (fun i => w[i]?) := hC.symm
  have hPc : va_P G.1 classes wc H := hP.sub isC (by have h2 := congrArg (fun q => q.filterMap id) hC; simpa [List.filterMap_map, Function.comp_def] using h2)
  have hDc : va_D A wc := hD.sub isC hnC hC
  have hF := va_free (wc := wc) hD hS C.2.2.2.2.2.2.2.1 isC hC
  have hrun := va_runIN (g := F0 m pc ls ((As.reverse ++ .ref b :: rest))) (locs := locs) (cells := k) (slots := n) (e := e) (below := below) (meth := meth) ⟨C.1, C.2.1, C.2.2.2.1, C.2.2.2.2.1, hts⟩ (hM H.size) (⟨va_cnB na hts (tg_good hcode) rfl rfl rfl (C.2.2.2.2.2.2.2.2.2.1.2.2.2.1 _ hlink) (hts _ hini) hd2 hR, hy1, hts _ hin⟩) (⟨tg_blind, fun U hU hW => ⟨rfl, tg_pc C.2.2.2.2.2.2.2.2.2.1 hS hF hPc (hDc.weaken (fun _ _ _ _ => trivial)) hU hW⟩⟩) rfl hna hl.1 rfl (lv_room hroom) hd hcs
  exact V_after C hP hD hS hl isC isR hC hR2 hn hdis hrun kk
end TG
