theorem va_P_iff {D : va_G} {cl : List vw_C} {a b : va_W} {H : Heap} : va_P D cl (a ++ b) H ↔ va_P D cl a H ∧ va_P D cl b H := by
  constructor
  · intro h
    refine ⟨fun k q hq => h k q ?_, fun k q hq => h (a.length + k) q ?_⟩
    · rw [List.getElem?_append_left (List.getElem?_eq_some_iff.mp hq).1]; exact hq
    · rw [List.getElem?_append_right (by omega)]; rw [show a.length + k - a.length = k by omega]; exact hq
  · intro h; exact va_P.app h.1 h.2
theorem va_D_iff {A : Nat → Prop} {a b : va_W} : va_D A (a ++ b) ↔ va_D A a ∧ va_D A b ∧ ∀ (i j : Nat) (p q : Nat × va_E), a[i]? = some p → b[j]? = some q → p.1 ≠ q.1 := by
  constructor
  · intro h
    have ha : ∀ (k : Nat) (q : Nat × va_E), a[k]? = some q → (a ++ b)[k]? = some q := fun k q hq => by rw [List.getElem?_append_left (List.getElem?_eq_some_iff.mp hq).1]; exact hq
    have hb : ∀ (k : Nat) (q : Nat × va_E), b[k]? = some q → (a ++ b)[a.length + k]? = some q := fun k q hq => by rw [List.getElem?_append_right (by omega), show a.length + k - a.length = k by omega]; exact hq
    refine ⟨⟨fun i j p q h1 h2 e => h.1 i j p q (ha i p h1) (ha j q h2) e, fun k q hq => h.2 k q (ha k q hq)⟩, ⟨fun i j p q h1 h2 e => ?_, fun k q hq => h.2 _ q (hb k q hq)⟩, fun i j p q h1 h2 e => ?_⟩
    · have := h.1 _ _ p q (hb i p h1) (hb j q h2) e; omega
    · have h3 := h.1 _ _ p q (ha i p h1) (hb j q h2) e
      have h4 := (List.getElem?_eq_some_iff.mp h1).1
      omega
  · intro h; exact va_D.app h.1 h.2.1 h.2.2
section TG7
variable {l : Launch} {G : tg_G} {Z : tg_Z} {E : tg_E} {R : Room} {own nm : String} {cc : ByteArray} {nL : Nat} {ret : Option FieldType} {pc pc2 : Nat} {lv : List (Nat × Value)} {st rest : List Value} {w : va_W} {k n : Nat}
theorem V_swap {a b : va_W} (kk : V l G Z E R own nm cc nL ret pc lv st (b ++ a) k n) : V l G Z E R own nm cc nL ret pc lv st (a ++ b) k n := by
  intro p e s m args below meth c A C H locs hP hD hS ls hl
  have h1 := va_P_iff.mp hP
  have h2 := va_D_iff.mp hD
  exact kk p e s m args below meth c A C H locs (va_P_iff.mpr ⟨h1.2, h1.1⟩) (va_D_iff.mpr ⟨h2.2.1, h2.1, fun i j p q g1 g2 e => h2.2.2 j i q p g2 g1 e.symm⟩) hS ls hl
theorem tg_frame {A : Nat → Prop} {wc wr w1 : va_W} {H H1 : Heap} (hP : va_P G.1 classes (wc ++ wr) H) (hD : va_D A (wc ++ wr)) (hk : ∀ q : Nat, q < H.size → ¬ va_A wc H.size q → H1[q]? = H[q]?) (hF : ∀ q, va_A wc H.size q → A q) (hP1 : va_P G.1 classes w1 H1) (hD1 : va_D (va_A wc H.size) w1) : va_P G.1 classes (w1 ++ wr) H1 ∧ va_D A (w1 ++ wr) := by
  obtain ⟨hPc, hPr⟩ := va_P_iff.mp hP
  obtain ⟨hDc, hDr, hx⟩ := va_D_iff.mp hD
  have apart : ∀ (j : Nat) (q : Nat × va_E), wr[j]? = some q → q.1 < H.size ∧ ¬ va_A wc H.size q.1 := by
    intro j q hq
    have hlt := (hPr j q hq).lt
    refine ⟨hlt, fun h => ?_⟩
    rcases h with ⟨i, e, hi⟩ | h
    · exact hx i j _ q hi hq rfl
    · omega
  refine ⟨va_P_iff.mpr ⟨hP1, fun j q hq => (hPr j q hq).kept (hk q.1 (apart j q hq).1 (apart j q hq).2)⟩, va_D_iff.mpr ⟨hD1.weaken (fun k q _ h => hF q.1 h), hDr, fun i j p q g1 g2 e => ?_⟩⟩
  exact (apart j q g2).2 (by rw [← e]; exact hD1.2 i p g1)
theorem V_callA {y : MethodName} {c2 : ByteArray} {n2 na index b ci : Nat} {r2 : Option FieldType} {rm : Room} {As : List Value} {Q : Option Value → va_W → Prop} {fs : List Value} {r : vw_C} {wc wr : va_W} (d : Dc cc pc (.invokevirtual index) 3 pc2) (hM : Mt l G y c2 n2 r2 rm (.ref b :: As) wc Q) (hcode : Cond.code y c2 n2 r2 ∈ tg_tbl) (hlink : Cond.methodLink own index y ∈ tg_tbl) (hini : Cond.initialized y.cls ∈ tg_tbl) (hin : Cond.instanceMethod y ∈ tg_tbl) (hsel : Cond.selects r.1 y y ∈ tg_tbl) (q0 : Nat) (hq : wc[q0]? = some (b, .inr (ci, fs))) (hci : classes[ci]? = some r) (hd2 : y.cls ≠ "java/lang/invoke/MethodHandle" ∧ y.cls ≠ "java/lang/invoke/VarHandle" ∧ (parseMethodDescriptor y.desc).map (fun d => d.parameters.length) = some na) (hna : As.length = na) (hR : rm.frames + 1 ≤ R.frames ∧ 8 + (n2 + 11) + rm.locals ≤ R.locals) (hcs : k + rm.cells ≤ R.cells ∧ n + rm.slots ≤ R.slots) (hst : (As.reverse ++ .ref b :: rest) = st) (hroom : (rest.map fun v => v.category).sum ≤ 8) (hw : w = wc ++ wr) (kk : ∀ (v : Option Value) (w1 : va_W), Q v w1 → V l G Z E R own nm cc nL ret pc2 lv (v.toList ++ rest) (w1 ++ wr) (k + rm.cells) (n + rm.slots)) : V l G Z E R own nm cc nL ret pc lv st w k n := by
  intro p e s m args below meth c A C H locs hP hD hS ls hl
  obtain ⟨hd, rfl⟩ := d
  subst hst
  subst hw
  have hts := C.2.2.2.2.2.1
  obtain ⟨hPc, hPr⟩ := va_P_iff.mp hP
  obtain ⟨hDc, hDr, hx⟩ := va_D_iff.mp hD
  have hF : ∀ q, va_A wc H.size q → A q := fun q h => by
    rcases h with ⟨i, e, hi⟩ | h
    · exact hDc.2 i _ hi
    · exact C.2.2.2.2.2.2.2.1 q (Nat.le_trans hS.1 h)
  have hrun := va_runV (g := F0 m pc ls (As.reverse ++ .ref b :: rest)) (locs := locs) (cells := k) (slots := n) (e := e) (below := below) (meth := meth) ⟨C.1, C.2.1, C.2.2.2.1, C.2.2.2.2.1, hts⟩ (hM H.size) (⟨callB_of na hts (tg_good hcode) rfl rfl rfl (hts _ hini) (hts _ hlink) hd2 hR, hts _ hin, hts _ hsel⟩) (⟨tg_blind, va_recv C.2.2.2.2.2.2.2.2.2.1.1 hPc hci hq, fun U hU hW => ⟨rfl, tg_pc C.2.2.2.2.2.2.2.2.2.1 hS hF hPc (hDc.weaken (fun _ _ _ _ => trivial)) hU hW⟩⟩) rfl hna hl.1 rfl (lv_room hroom) hd hcs
  intro T hT X
  obtain ⟨v, st₀, t, T', L, h0, X', hL, e1, e2, ⟨⟨v', w1, hv, hq, hP1, hD1⟩, hz, hk⟩, st⟩ := hrun T hT X
  cases hv
  rw [h0] at hz hk
  rw [← e1] at hP1 hz hk
  obtain ⟨hP2, hD2⟩ := tg_frame hP hD hk hF hP1 hD1
  have hS2 : va_S A s.heap T'.heap (locs ++ L) := ⟨Nat.le_trans hS.1 hz, fun q h1 h2 => by rw [hk q (Nat.lt_of_lt_of_le h1 hS.1) (fun z => h2 (hF q z))]; exact hS.2.1 q h1 h2, fun q hq => by
      rcases List.mem_append.mp hq with h | h
      · exact hS.2.2 q h
      · exact hF _ (hL q h)⟩
  obtain ⟨t2, a1, b1⟩ := kk v w1 hq p e s m args below meth c A C T'.heap (locs ++ L) hP2 hD2 hS2 ls hl T' rfl X'
  exact ⟨t2, st t2 a1, b1⟩
theorem V_callAi {y : MethodName} {c2 : ByteArray} {n2 na index b ci f2 lo2 : Nat} {r2 : Option FieldType} {As : List Value} {v0 : Int32} {fs : List Value} {r : vw_C} {wc wr w1 w' : va_W} (d : Dc cc pc (.invokevirtual index) 3 pc2) (hM : Mt l G y c2 n2 r2 (tg_R f2 lo2) (.ref b :: As) wc (fun v w2 => v = some (.int v0) ∧ w2 = w1)) (hcode : Cond.code y c2 n2 r2 ∈ tg_tbl) (hlink : Cond.methodLink own index y ∈ tg_tbl) (hini : Cond.initialized y.cls ∈ tg_tbl) (hin : Cond.instanceMethod y ∈ tg_tbl) (hsel : Cond.selects r.1 y y ∈ tg_tbl) (q0 : Nat) (hq : wc[q0]? = some (b, .inr (ci, fs))) (hci : classes[ci]? = some r) (hd2 : y.cls ≠ "java/lang/invoke/MethodHandle" ∧ y.cls ≠ "java/lang/invoke/VarHandle" ∧ (parseMethodDescriptor y.desc).map (fun d => d.parameters.length) = some na) (hna : As.length = na) (hR : f2 + 1 ≤ R.frames ∧ 8 + (n2 + 11) + lo2 ≤ R.locals) (hcs : k ≤ R.cells ∧ n ≤ R.slots) (hst : (As.reverse ++ .ref b :: rest) = st) (hroom : (rest.map fun v => v.category).sum ≤ 8) (hw : w = wc ++ wr) (hw2 : w1 ++ wr = w') (kk : V l G Z E R own nm cc nL ret pc2 lv (.int v0 :: rest) w' k n) : V l G Z E R own nm cc nL ret pc lv st w k n := by
  subst hw2
  refine V_callA d hM hcode hlink hini hin hsel q0 hq hci hd2 hna hR hcs hst hroom hw (fun v w2 hq2 => ?_)
  obtain ⟨rfl, rfl⟩ := hq2
  exact kk
theorem V_callBi {y : MethodName} {c2 : ByteArray} {n2 na index b ci f2 lo2 : Nat} {r2 : Option FieldType} {As : List Value} {v0 : Int32} {fs : List Value} {r : vw_C} {wc wl w1 : va_W} (d : Dc cc pc (.invokevirtual index) 3 pc2) (hM : Mt l G y c2 n2 r2 (tg_R f2 lo2) (.ref b :: As) wc (fun v w2 => v = some (.int v0) ∧ w2 = w1)) (hcode : Cond.code y c2 n2 r2 ∈ tg_tbl) (hlink : Cond.methodLink own index y ∈ tg_tbl) (hini : Cond.initialized y.cls ∈ tg_tbl) (hin : Cond.instanceMethod y ∈ tg_tbl) (hsel : Cond.selects r.1 y y ∈ tg_tbl) (q0 : Nat) (hq : wc[q0]? = some (b, .inr (ci, fs))) (hci : classes[ci]? = some r) (hd2 : y.cls ≠ "java/lang/invoke/MethodHandle" ∧ y.cls ≠ "java/lang/invoke/VarHandle" ∧ (parseMethodDescriptor y.desc).map (fun d => d.parameters.length) = some na) (hna : As.length = na) (hR : f2 + 1 ≤ R.frames ∧ 8 + (n2 + 11) + lo2 ≤ R.locals) (hcs : k ≤ R.cells ∧ n ≤ R.slots) (hst : (As.reverse ++ .ref b :: rest) = st) (hroom : (rest.map fun v => v.category).sum ≤ 8) (kk : V l G Z E R own nm cc nL ret pc2 lv (.int v0 :: rest) (wl ++ w1) k n) : V l G Z E R own nm cc nL ret pc lv st (wl ++ wc) k n := by
  refine V_swap ?_
  exact V_callAi d hM hcode hlink hini hin hsel q0 hq hci hd2 hna hR hcs hst hroom rfl rfl (V_swap kk)
theorem V_callAl {y : MethodName} {c2 : ByteArray} {n2 na index b ci f2 lo2 : Nat} {r2 : Option FieldType} {As : List Value} {v0 : Int64} {fs : List Value} {r : vw_C} {wc wr w1 w' : va_W} (d : Dc cc pc (.invokevirtual index) 3 pc2) (hM : Mt l G y c2 n2 r2 (tg_R f2 lo2) (.ref b :: As) wc (fun v w2 => v = some (.long v0) ∧ w2 = w1)) (hcode : Cond.code y c2 n2 r2 ∈ tg_tbl) (hlink : Cond.methodLink own index y ∈ tg_tbl) (hini : Cond.initialized y.cls ∈ tg_tbl) (hin : Cond.instanceMethod y ∈ tg_tbl) (hsel : Cond.selects r.1 y y ∈ tg_tbl) (q0 : Nat) (hq : wc[q0]? = some (b, .inr (ci, fs))) (hci : classes[ci]? = some r) (hd2 : y.cls ≠ "java/lang/invoke/MethodHandle" ∧ y.cls ≠ "java/lang/invoke/VarHandle" ∧ (parseMethodDescriptor y.desc).map (fun d => d.parameters.length) = some na) (hna : As.length = na) (hR : f2 + 1 ≤ R.frames ∧ 8 + (n2 + 11) + lo2 ≤ R.locals) (hcs : k ≤ R.cells ∧ n ≤ R.slots) (hst : (As.reverse ++ .ref b :: rest) = st) (hroom : (rest.map fun v => v.category).sum ≤ 8) (hw : w = wc ++ wr) (hw2 : w1 ++ wr = w') (kk : V l G Z E R own nm cc nL ret pc2 lv (.long v0 :: rest) w' k n) : V l G Z E R own nm cc nL ret pc lv st w k n := by
  subst hw2
  refine V_callA d hM hcode hlink hini hin hsel q0 hq hci hd2 hna hR hcs hst hroom hw (fun v w2 hq2 => ?_)
  obtain ⟨rfl, rfl⟩ := hq2
  exact kk
theorem V_callBl {y : MethodName} {c2 : ByteArray} {n2 na index b ci f2 lo2 : Nat} {r2 : Option FieldType} {As : List Value} {v0 : Int64} {fs : List Value} {r : vw_C} {wc wl w1 : va_W} (d : Dc cc pc (.invokevirtual index) 3 pc2) (hM : Mt l G y c2 n2 r2 (tg_R f2 lo2) (.ref b :: As) wc (fun v w2 => v = some (.long v0) ∧ w2 = w1)) (hcode : Cond.code y c2 n2 r2 ∈ tg_tbl) (hlink : Cond.methodLink own index y ∈ tg_tbl) (hini : Cond.initialized y.cls ∈ tg_tbl) (hin : Cond.instanceMethod y ∈ tg_tbl) (hsel : Cond.selects r.1 y y ∈ tg_tbl) (q0 : Nat) (hq : wc[q0]? = some (b, .inr (ci, fs))) (hci : classes[ci]? = some r) (hd2 : y.cls ≠ "java/lang/invoke/MethodHandle" ∧ y.cls ≠ "java/lang/invoke/VarHandle" ∧ (parseMethodDescriptor y.desc).map (fun d => d.parameters.length) = some na) (hna : As.length = na) (hR : f2 + 1 ≤ R.frames ∧ 8 + (n2 + 11) + lo2 ≤ R.locals) (hcs : k ≤ R.cells ∧ n ≤ R.slots) (hst : (As.reverse ++ .ref b :: rest) = st) (hroom : (rest.map fun v => v.category).sum ≤ 8) (kk : V l G Z E R own nm cc nL ret pc2 lv (.long v0 :: rest) (wl ++ w1) k n) : V l G Z E R own nm cc nL ret pc lv st (wl ++ wc) k n := by
  refine V_swap ?_
  exact V_callAl d hM hcode hlink hini hin hsel q0 hq hci hd2 hna hR hcs hst hroom rfl rfl (V_swap kk)
/-- the law's own script -/
def EL (b L : Nat) (xs : Nat → Int32) : tg_E := fun s A => va_X b L xs s s.heap ∧ b < s.heap.size ∧ ¬ A b ∧ ∀ q, A q → s.heap.size ≤ q
def ZL : tg_Z := fun s args below _ => lw_Z below args s
theorem V_sld {b L : Nat} {xs : Nat → Int32} {i : Int32} (d : Dc cc pc (.iaload) 1 pc2) (hi : vp_in i L) (kk : V l G Z (EL b L xs) R own nm cc nL ret pc2 lv (.int (xs i.toNatClampNeg) :: rest) w k n) : V l G Z (EL b L xs) R own nm cc nL ret pc lv (.int i :: .ref b :: rest) w k n := by
  intro p e s m args below meth c A C H locs hP hD hS ls hl
  obtain ⟨hd, rfl⟩ := d
  have hE := C.2.2.2.2.2.2.2.2.2.2
  exact va_sld C.1 C.2.1 hE.1 hE.2.1 hE.2.2.1 hS hi hd (kk p e s m args below meth c A C H locs hP hD hS ls hl)
theorem V_slen {b L : Nat} {xs : Nat → Int32} (d : Dc cc pc (.arraylength) 1 pc2) (kk : V l G Z (EL b L xs) R own nm cc nL ret pc2 lv (.int (Int32.ofNat L) :: rest) w k n) : V l G Z (EL b L xs) R own nm cc nL ret pc lv (.ref b :: rest) w k n := by
  intro p e s m args below meth c A C H locs hP hD hS ls hl
  obtain ⟨hd, rfl⟩ := d
  have hE := C.2.2.2.2.2.2.2.2.2.2
  exact va_slen C.1 C.2.1 hE.1 hE.2.1 hE.2.2.1 hS hd (kk p e s m args below meth c A C H locs hP hD hS ls hl)
end TG7
/-- the law's own end, for any arguments -/
theorem lw_ret2 {p : Program} {l : Launch} {e : Env} {s : State} {m : MethodId} {below : List Frame} {meth : Method} {c : Code} {args : Array Value} (hx : p.tables.exec = Jvm.exec) (hb : c.code = code) (hr : meth.sig.returnType = ret) (hlocks : meth.locks = false) {pc : Nat} {H : Heap} {ls : Array Slot} (hdg : decode code pc = .ok (.ireturn, 1)) : W p l e room_1 s m args below meth c H [] 600000 7302250 (lw_Z below args s) (F0 m pc ls [.int 1]) := by
  intro T hT X
  obtain ⟨fs, hret, hrun, hended, hW, hframe⟩ := X.leave (v := some (.int 1)) (hlocks := hlocks) (fun h => by rw [hr] at h; cases h)
  have hmeth' : T.vm.method? m = some meth := X.method'
  refine ⟨T.setFrames fs, ?_, .returned (some (.int 1)), hrun, hended, rfl, ⟨_, rfl⟩, hW, hframe⟩
  jvm_step X.here [X.here.top, hx, hb, hdg, hmeth', hr, ret, narrow_b1]
  (try refine ⟨rfl, ?_⟩); (try refine ⟨rfl, ?_⟩)
  first | (intro acts; rw [hret _ acts rfl rfl rfl]) | rw [hret _ _ rfl rfl rfl]
  exact Steps.refl _
theorem V_lawend {l : Launch} {G : tg_G} {b L : Nat} {xs : Nat → Int32} {own nm : String} {nL pc pc2 : Nat} {lv : List (Nat × Value)} {w : va_W} {k n : Nat} (d : Dc code pc (.ireturn) 1 pc2) (hk : k ≤ 600000) (hn : n ≤ 7302250) : V l G ZL (EL b L xs) room_1 own nm code nL ret pc lv [.int 1] w k n := by
  intro p e s m args below meth c A C H locs hP hD hS ls hl
  obtain ⟨hd, rfl⟩ := d
  have hE := C.2.2.2.2.2.2.2.2.2.2
  refine va_forget (fun q hq => hE.2.2.2 _ (hS.2.2 q hq)) ?_
  refine W.widen (k := 600000) (n := 7302250) hk hn ?_
  exact lw_ret2 C.1 C.2.1 C.2.2.1 C.2.2.2.2.2.2.1 hd
def imC (G : tg_G) (A : Nat → Nat) (i0 i1 : tg_I) : va_W := (A 28, .inl (G.2.2.2.1, 2, .inr (.inr (.inr (.inr (wIr i0 i1)))))) :: (wIc G i0 ++ wIc G i1)
def wL (G : tg_G) (A B : Nat → Nat) (c m : SS) (i0 i1 : tg_I) : va_W := (wC G A c ++ imC G A i0 i1) ++ wM G B m
def ic (i : tg_I) : Nat := match i with
  | none => 0
  | some _ => 8
def isl (i : tg_I) : Nat := match i with
  | none => 0
  | some _ => 69
theorem ic_le (i : tg_I) : ic i ≤ 8 := by cases i <;> exact Nat.le_of_ble_eq_true rfl
theorem isl_le (i : tg_I) : isl i ≤ 69 := by cases i <;> exact Nat.le_of_ble_eq_true rfl
theorem ic_le2 (i0 i1 : tg_I) : 49 + ic i0 + ic i1 ≤ 600000 := Nat.le_trans (Nat.add_le_add (Nat.add_le_add_left (ic_le i0) 49) (ic_le i1)) (Nat.le_of_ble_eq_true rfl)
theorem isl_le2 (i0 i1 : tg_I) : 375659 + isl i0 + isl i1 ≤ 7302250 := Nat.le_trans (Nat.add_le_add (Nat.add_le_add_left (isl_le i0) 375659) (isl_le i1)) (Nat.le_of_ble_eq_true rfl)
def upI (i : tg_I) (B : Nat → Nat) (c : SS) : tg_I := match i with
  | none => some (B, cpW tg_ini c)
  | some q => some (q.1, cpW q.2 c)
def rsW (c j : SS) : SS := (fun k => if 1 ≤ k ∧ k ≤ 8 then j.1 k else c.1 k, fun k => if 1 ≤ k ∧ k ≤ 7 then va_cpy (j.2 k) (c.2 k) 0 0 (if k = 1 then 6 else 8) else c.2 k)
theorem eL_0 : Dc code 0 (.new 7) 3 3 := ⟨by decide +kernel, rfl⟩
theorem eL_3 : Dc code 3 (.dup) 1 4 := ⟨by decide +kernel, rfl⟩
theorem eL_4 : Dc code 4 (.invokespecial 9) 3 7 := ⟨by decide +kernel, rfl⟩
theorem eL_7 : Dc code 7 (.astore_n 1) 1 8 := ⟨by decide +kernel, rfl⟩
theorem eL_8 : Dc code 8 (.new 10) 3 11 := ⟨by decide +kernel, rfl⟩
theorem eL_11 : Dc code 11 (.dup) 1 12 := ⟨by decide +kernel, rfl⟩
theorem eL_12 : Dc code 12 (.invokespecial 12) 3 15 := ⟨by decide +kernel, rfl⟩
theorem eL_15 : Dc code 15 (.astore_n 2) 1 16 := ⟨by decide +kernel, rfl⟩
theorem eL_16 : Dc code 16 (.iconst 0) 1 17 := ⟨by decide +kernel, rfl⟩
theorem eL_17 : Dc code 17 (.istore_n 3) 1 18 := ⟨by decide +kernel, rfl⟩
theorem eL_18 : Dc code 18 (.iload_n 3) 1 19 := ⟨by decide +kernel, rfl⟩
theorem eL_19 : Dc code 19 (.aload_n 0) 1 20 := ⟨by decide +kernel, rfl⟩
theorem eL_20 : Dc code 20 (.arraylength) 1 21 := ⟨by decide +kernel, rfl⟩
theorem eL_21 : Dc code 21 (.bipush 7) 2 23 := ⟨by decide +kernel, rfl⟩
theorem eL_23 : Dc code 23 (.isub) 1 24 := ⟨by decide +kernel, rfl⟩
theorem eL_24 : Dc code 24 (.if_icmp .gt 1097) 3 27 := ⟨by decide +kernel, rfl⟩
theorem eL_27 : Dc code 27 (.aload_n 0) 1 28 := ⟨by decide +kernel, rfl⟩
theorem eL_28 : Dc code 28 (.iload_n 3) 1 29 := ⟨by decide +kernel, rfl⟩
theorem eL_29 : Dc code 29 (.iaload) 1 30 := ⟨by decide +kernel, rfl⟩
theorem eL_30 : Dc code 30 (.bipush 31) 2 32 := ⟨by decide +kernel, rfl⟩
theorem eL_32 : Dc code 32 (.iand) 1 33 := ⟨by decide +kernel, rfl⟩
theorem eL_33 : Dc code 33 (.tableswitch 1082 0 30 #[139, 162, 175, 198, 211, 260, 335, 358, 391, 424, 447, 460, 483, 506, 519, 542, 555, 598, 631, 674, 697, 730, 763, 776, 809, 863, 907, 970, 1013, 1036, 1059]) 139 172 := ⟨by decide +kernel, rfl⟩
theorem eL_172 : Dc code 172 (.aload_n 1) 1 173 := ⟨by decide +kernel, rfl⟩
theorem eL_173 : Dc code 173 (.aload_n 0) 1 174 := ⟨by decide +kernel, rfl⟩
theorem eL_174 : Dc code 174 (.iload_n 3) 1 175 := ⟨by decide +kernel, rfl⟩
theorem eL_175 : Dc code 175 (.iconst 1) 1 176 := ⟨by decide +kernel, rfl⟩
theorem eL_176 : Dc code 176 (.iadd) 1 177 := ⟨by decide +kernel, rfl⟩
theorem eL_177 : Dc code 177 (.iaload) 1 178 := ⟨by decide +kernel, rfl⟩
theorem eL_178 : Dc code 178 (.invokevirtual 13) 3 181 := ⟨by decide +kernel, rfl⟩
theorem eL_181 : Dc code 181 (.aload_n 2) 1 182 := ⟨by decide +kernel, rfl⟩
theorem eL_182 : Dc code 182 (.aload_n 0) 1 183 := ⟨by decide +kernel, rfl⟩
theorem eL_183 : Dc code 183 (.iload_n 3) 1 184 := ⟨by decide +kernel, rfl⟩
theorem eL_184 : Dc code 184 (.iconst 1) 1 185 := ⟨by decide +kernel, rfl⟩
theorem eL_185 : Dc code 185 (.iadd) 1 186 := ⟨by decide +kernel, rfl⟩
theorem eL_186 : Dc code 186 (.iaload) 1 187 := ⟨by decide +kernel, rfl⟩
theorem eL_187 : Dc code 187 (.invokevirtual 17) 3 190 := ⟨by decide +kernel, rfl⟩
theorem eL_190 : Dc code 190 (.if_icmp .eq 925) 3 193 := ⟨by decide +kernel, rfl⟩
theorem eL_193 : Dc code 193 (.iconst 0) 1 194 := ⟨by decide +kernel, rfl⟩
theorem eL_194 : Dc code 194 (.ireturn) 1 195 := ⟨by decide +kernel, rfl⟩
theorem eL_195 : Dc code 195 (.aload_n 1) 1 196 := ⟨by decide +kernel, rfl⟩
theorem eL_196 : Dc code 196 (.invokevirtual 18) 3 199 := ⟨by decide +kernel, rfl⟩
theorem eL_199 : Dc code 199 (.aload_n 2) 1 200 := ⟨by decide +kernel, rfl⟩
theorem eL_200 : Dc code 200 (.invokevirtual 22) 3 203 := ⟨by decide +kernel, rfl⟩
theorem eL_203 : Dc code 203 (.if_icmp .eq 912) 3 206 := ⟨by decide +kernel, rfl⟩
theorem eL_206 : Dc code 206 (.iconst 0) 1 207 := ⟨by decide +kernel, rfl⟩
theorem eL_207 : Dc code 207 (.ireturn) 1 208 := ⟨by decide +kernel, rfl⟩
theorem eL_208 : Dc code 208 (.aload_n 1) 1 209 := ⟨by decide +kernel, rfl⟩
theorem eL_209 : Dc code 209 (.aload_n 0) 1 210 := ⟨by decide +kernel, rfl⟩
theorem eL_210 : Dc code 210 (.iload_n 3) 1 211 := ⟨by decide +kernel, rfl⟩
theorem eL_211 : Dc code 211 (.iconst 1) 1 212 := ⟨by decide +kernel, rfl⟩
theorem eL_212 : Dc code 212 (.iadd) 1 213 := ⟨by decide +kernel, rfl⟩
theorem eL_213 : Dc code 213 (.iaload) 1 214 := ⟨by decide +kernel, rfl⟩
theorem eL_214 : Dc code 214 (.invokevirtual 23) 3 217 := ⟨by decide +kernel, rfl⟩
theorem eL_217 : Dc code 217 (.aload_n 2) 1 218 := ⟨by decide +kernel, rfl⟩
theorem eL_218 : Dc code 218 (.aload_n 0) 1 219 := ⟨by decide +kernel, rfl⟩
theorem eL_219 : Dc code 219 (.iload_n 3) 1 220 := ⟨by decide +kernel, rfl⟩
theorem eL_220 : Dc code 220 (.iconst 1) 1 221 := ⟨by decide +kernel, rfl⟩
theorem eL_221 : Dc code 221 (.iadd) 1 222 := ⟨by decide +kernel, rfl⟩
theorem eL_222 : Dc code 222 (.iaload) 1 223 := ⟨by decide +kernel, rfl⟩
theorem eL_223 : Dc code 223 (.invokevirtual 26) 3 226 := ⟨by decide +kernel, rfl⟩
theorem eL_226 : Dc code 226 (.if_icmp .eq 889) 3 229 := ⟨by decide +kernel, rfl⟩
theorem eL_229 : Dc code 229 (.iconst 0) 1 230 := ⟨by decide +kernel, rfl⟩
theorem eL_230 : Dc code 230 (.ireturn) 1 231 := ⟨by decide +kernel, rfl⟩
theorem eL_231 : Dc code 231 (.aload_n 1) 1 232 := ⟨by decide +kernel, rfl⟩
theorem eL_232 : Dc code 232 (.invokevirtual 27) 3 235 := ⟨by decide +kernel, rfl⟩
theorem eL_235 : Dc code 235 (.aload_n 2) 1 236 := ⟨by decide +kernel, rfl⟩
theorem eL_236 : Dc code 236 (.invokevirtual 30) 3 239 := ⟨by decide +kernel, rfl⟩
theorem eL_239 : Dc code 239 (.if_icmp .eq 876) 3 242 := ⟨by decide +kernel, rfl⟩
theorem eL_242 : Dc code 242 (.iconst 0) 1 243 := ⟨by decide +kernel, rfl⟩
theorem eL_243 : Dc code 243 (.ireturn) 1 244 := ⟨by decide +kernel, rfl⟩
theorem eL_244 : Dc code 244 (.aload_n 1) 1 245 := ⟨by decide +kernel, rfl⟩
theorem eL_245 : Dc code 245 (.aload_n 0) 1 246 := ⟨by decide +kernel, rfl⟩
theorem eL_246 : Dc code 246 (.iload_n 3) 1 247 := ⟨by decide +kernel, rfl⟩
theorem eL_247 : Dc code 247 (.iconst 1) 1 248 := ⟨by decide +kernel, rfl⟩
theorem eL_248 : Dc code 248 (.iadd) 1 249 := ⟨by decide +kernel, rfl⟩
theorem eL_249 : Dc code 249 (.iaload) 1 250 := ⟨by decide +kernel, rfl⟩
theorem eL_250 : Dc code 250 (.aload_n 0) 1 251 := ⟨by decide +kernel, rfl⟩
theorem eL_251 : Dc code 251 (.iload_n 3) 1 252 := ⟨by decide +kernel, rfl⟩
theorem eL_252 : Dc code 252 (.iconst 2) 1 253 := ⟨by decide +kernel, rfl⟩
theorem eL_253 : Dc code 253 (.iadd) 1 254 := ⟨by decide +kernel, rfl⟩
theorem eL_254 : Dc code 254 (.iaload) 1 255 := ⟨by decide +kernel, rfl⟩
theorem eL_255 : Dc code 255 (.ifCond .eq 7) 3 258 := ⟨by decide +kernel, rfl⟩
theorem eL_258 : Dc code 258 (.iconst 1) 1 259 := ⟨by decide +kernel, rfl⟩
theorem eL_259 : Dc code 259 (.goto 4) 3 262 := ⟨by decide +kernel, rfl⟩
theorem eL_262 : Dc code 262 (.iconst 0) 1 263 := ⟨by decide +kernel, rfl⟩
theorem eL_263 : Dc code 263 (.invokevirtual 31) 3 266 := ⟨by decide +kernel, rfl⟩
theorem eL_266 : Dc code 266 (.aload_n 2) 1 267 := ⟨by decide +kernel, rfl⟩
theorem eL_267 : Dc code 267 (.aload_n 0) 1 268 := ⟨by decide +kernel, rfl⟩
theorem eL_268 : Dc code 268 (.iload_n 3) 1 269 := ⟨by decide +kernel, rfl⟩
theorem eL_269 : Dc code 269 (.iconst 1) 1 270 := ⟨by decide +kernel, rfl⟩
theorem eL_270 : Dc code 270 (.iadd) 1 271 := ⟨by decide +kernel, rfl⟩
theorem eL_271 : Dc code 271 (.iaload) 1 272 := ⟨by decide +kernel, rfl⟩
theorem eL_272 : Dc code 272 (.aload_n 0) 1 273 := ⟨by decide +kernel, rfl⟩
theorem eL_273 : Dc code 273 (.iload_n 3) 1 274 := ⟨by decide +kernel, rfl⟩
theorem eL_274 : Dc code 274 (.iconst 2) 1 275 := ⟨by decide +kernel, rfl⟩
theorem eL_275 : Dc code 275 (.iadd) 1 276 := ⟨by decide +kernel, rfl⟩
theorem eL_276 : Dc code 276 (.iaload) 1 277 := ⟨by decide +kernel, rfl⟩
theorem eL_277 : Dc code 277 (.ifCond .eq 7) 3 280 := ⟨by decide +kernel, rfl⟩
theorem eL_280 : Dc code 280 (.iconst 1) 1 281 := ⟨by decide +kernel, rfl⟩
theorem eL_281 : Dc code 281 (.goto 4) 3 284 := ⟨by decide +kernel, rfl⟩
theorem eL_284 : Dc code 284 (.iconst 0) 1 285 := ⟨by decide +kernel, rfl⟩
theorem eL_285 : Dc code 285 (.invokevirtual 35) 3 288 := ⟨by decide +kernel, rfl⟩
theorem eL_288 : Dc code 288 (.if_icmp .eq 827) 3 291 := ⟨by decide +kernel, rfl⟩
theorem eL_291 : Dc code 291 (.iconst 0) 1 292 := ⟨by decide +kernel, rfl⟩
theorem eL_292 : Dc code 292 (.ireturn) 1 293 := ⟨by decide +kernel, rfl⟩
theorem eL_293 : Dc code 293 (.aload_n 1) 1 294 := ⟨by decide +kernel, rfl⟩
theorem eL_294 : Dc code 294 (.aload_n 0) 1 295 := ⟨by decide +kernel, rfl⟩
theorem eL_295 : Dc code 295 (.iload_n 3) 1 296 := ⟨by decide +kernel, rfl⟩
theorem eL_296 : Dc code 296 (.iconst 1) 1 297 := ⟨by decide +kernel, rfl⟩
theorem eL_297 : Dc code 297 (.iadd) 1 298 := ⟨by decide +kernel, rfl⟩
theorem eL_298 : Dc code 298 (.iaload) 1 299 := ⟨by decide +kernel, rfl⟩
theorem eL_299 : Dc code 299 (.aload_n 0) 1 300 := ⟨by decide +kernel, rfl⟩
theorem eL_300 : Dc code 300 (.iload_n 3) 1 301 := ⟨by decide +kernel, rfl⟩
theorem eL_301 : Dc code 301 (.iconst 2) 1 302 := ⟨by decide +kernel, rfl⟩
theorem eL_302 : Dc code 302 (.iadd) 1 303 := ⟨by decide +kernel, rfl⟩
theorem eL_303 : Dc code 303 (.iaload) 1 304 := ⟨by decide +kernel, rfl⟩
theorem eL_304 : Dc code 304 (.aload_n 0) 1 305 := ⟨by decide +kernel, rfl⟩
theorem eL_305 : Dc code 305 (.iload_n 3) 1 306 := ⟨by decide +kernel, rfl⟩
theorem eL_306 : Dc code 306 (.iconst 3) 1 307 := ⟨by decide +kernel, rfl⟩
theorem eL_307 : Dc code 307 (.iadd) 1 308 := ⟨by decide +kernel, rfl⟩
theorem eL_308 : Dc code 308 (.iaload) 1 309 := ⟨by decide +kernel, rfl⟩
theorem eL_309 : Dc code 309 (.aload_n 0) 1 310 := ⟨by decide +kernel, rfl⟩
theorem eL_310 : Dc code 310 (.iload_n 3) 1 311 := ⟨by decide +kernel, rfl⟩
theorem eL_311 : Dc code 311 (.iconst 4) 1 312 := ⟨by decide +kernel, rfl⟩
theorem eL_312 : Dc code 312 (.iadd) 1 313 := ⟨by decide +kernel, rfl⟩
theorem eL_313 : Dc code 313 (.iaload) 1 314 := ⟨by decide +kernel, rfl⟩
theorem eL_314 : Dc code 314 (.aload_n 0) 1 315 := ⟨by decide +kernel, rfl⟩
theorem eL_315 : Dc code 315 (.iload_n 3) 1 316 := ⟨by decide +kernel, rfl⟩
theorem eL_316 : Dc code 316 (.iconst 5) 1 317 := ⟨by decide +kernel, rfl⟩
theorem eL_317 : Dc code 317 (.iadd) 1 318 := ⟨by decide +kernel, rfl⟩
theorem eL_318 : Dc code 318 (.iaload) 1 319 := ⟨by decide +kernel, rfl⟩
theorem eL_319 : Dc code 319 (.aload_n 0) 1 320 := ⟨by decide +kernel, rfl⟩
theorem eL_320 : Dc code 320 (.iload_n 3) 1 321 := ⟨by decide +kernel, rfl⟩
theorem eL_321 : Dc code 321 (.bipush 6) 2 323 := ⟨by decide +kernel, rfl⟩
theorem eL_323 : Dc code 323 (.iadd) 1 324 := ⟨by decide +kernel, rfl⟩
theorem eL_324 : Dc code 324 (.iaload) 1 325 := ⟨by decide +kernel, rfl⟩
theorem eL_325 : Dc code 325 (.invokevirtual 36) 3 328 := ⟨by decide +kernel, rfl⟩
theorem eL_328 : Dc code 328 (.aload_n 2) 1 329 := ⟨by decide +kernel, rfl⟩
theorem eL_329 : Dc code 329 (.aload_n 0) 1 330 := ⟨by decide +kernel, rfl⟩
theorem eL_330 : Dc code 330 (.iload_n 3) 1 331 := ⟨by decide +kernel, rfl⟩
theorem eL_331 : Dc code 331 (.iconst 1) 1 332 := ⟨by decide +kernel, rfl⟩
theorem eL_332 : Dc code 332 (.iadd) 1 333 := ⟨by decide +kernel, rfl⟩
theorem eL_333 : Dc code 333 (.iaload) 1 334 := ⟨by decide +kernel, rfl⟩
theorem eL_334 : Dc code 334 (.aload_n 0) 1 335 := ⟨by decide +kernel, rfl⟩
theorem eL_335 : Dc code 335 (.iload_n 3) 1 336 := ⟨by decide +kernel, rfl⟩
theorem eL_336 : Dc code 336 (.iconst 2) 1 337 := ⟨by decide +kernel, rfl⟩
theorem eL_337 : Dc code 337 (.iadd) 1 338 := ⟨by decide +kernel, rfl⟩
theorem eL_338 : Dc code 338 (.iaload) 1 339 := ⟨by decide +kernel, rfl⟩
theorem eL_339 : Dc code 339 (.aload_n 0) 1 340 := ⟨by decide +kernel, rfl⟩
theorem eL_340 : Dc code 340 (.iload_n 3) 1 341 := ⟨by decide +kernel, rfl⟩
theorem eL_341 : Dc code 341 (.iconst 3) 1 342 := ⟨by decide +kernel, rfl⟩
theorem eL_342 : Dc code 342 (.iadd) 1 343 := ⟨by decide +kernel, rfl⟩
theorem eL_343 : Dc code 343 (.iaload) 1 344 := ⟨by decide +kernel, rfl⟩
theorem eL_344 : Dc code 344 (.aload_n 0) 1 345 := ⟨by decide +kernel, rfl⟩
theorem eL_345 : Dc code 345 (.iload_n 3) 1 346 := ⟨by decide +kernel, rfl⟩
theorem eL_346 : Dc code 346 (.iconst 4) 1 347 := ⟨by decide +kernel, rfl⟩
theorem eL_347 : Dc code 347 (.iadd) 1 348 := ⟨by decide +kernel, rfl⟩
theorem eL_348 : Dc code 348 (.iaload) 1 349 := ⟨by decide +kernel, rfl⟩
theorem eL_349 : Dc code 349 (.aload_n 0) 1 350 := ⟨by decide +kernel, rfl⟩
theorem eL_350 : Dc code 350 (.iload_n 3) 1 351 := ⟨by decide +kernel, rfl⟩
theorem eL_351 : Dc code 351 (.iconst 5) 1 352 := ⟨by decide +kernel, rfl⟩
theorem eL_352 : Dc code 352 (.iadd) 1 353 := ⟨by decide +kernel, rfl⟩
theorem eL_353 : Dc code 353 (.iaload) 1 354 := ⟨by decide +kernel, rfl⟩
theorem eL_354 : Dc code 354 (.aload_n 0) 1 355 := ⟨by decide +kernel, rfl⟩
theorem eL_355 : Dc code 355 (.iload_n 3) 1 356 := ⟨by decide +kernel, rfl⟩
theorem eL_356 : Dc code 356 (.bipush 6) 2 358 := ⟨by decide +kernel, rfl⟩
theorem eL_358 : Dc code 358 (.iadd) 1 359 := ⟨by decide +kernel, rfl⟩
theorem eL_359 : Dc code 359 (.iaload) 1 360 := ⟨by decide +kernel, rfl⟩
theorem eL_360 : Dc code 360 (.invokevirtual 40) 3 363 := ⟨by decide +kernel, rfl⟩
theorem eL_363 : Dc code 363 (.if_icmp .eq 752) 3 366 := ⟨by decide +kernel, rfl⟩
theorem eL_366 : Dc code 366 (.iconst 0) 1 367 := ⟨by decide +kernel, rfl⟩
theorem eL_367 : Dc code 367 (.ireturn) 1 368 := ⟨by decide +kernel, rfl⟩
theorem eL_368 : Dc code 368 (.aload_n 1) 1 369 := ⟨by decide +kernel, rfl⟩
theorem eL_369 : Dc code 369 (.aload_n 0) 1 370 := ⟨by decide +kernel, rfl⟩
theorem eL_370 : Dc code 370 (.iload_n 3) 1 371 := ⟨by decide +kernel, rfl⟩
theorem eL_371 : Dc code 371 (.iconst 1) 1 372 := ⟨by decide +kernel, rfl⟩
theorem eL_372 : Dc code 372 (.iadd) 1 373 := ⟨by decide +kernel, rfl⟩
theorem eL_373 : Dc code 373 (.iaload) 1 374 := ⟨by decide +kernel, rfl⟩
theorem eL_374 : Dc code 374 (.invokevirtual 41) 3 377 := ⟨by decide +kernel, rfl⟩
theorem eL_377 : Dc code 377 (.aload_n 2) 1 378 := ⟨by decide +kernel, rfl⟩
theorem eL_378 : Dc code 378 (.aload_n 0) 1 379 := ⟨by decide +kernel, rfl⟩
theorem eL_379 : Dc code 379 (.iload_n 3) 1 380 := ⟨by decide +kernel, rfl⟩
theorem eL_380 : Dc code 380 (.iconst 1) 1 381 := ⟨by decide +kernel, rfl⟩
theorem eL_381 : Dc code 381 (.iadd) 1 382 := ⟨by decide +kernel, rfl⟩
theorem eL_382 : Dc code 382 (.iaload) 1 383 := ⟨by decide +kernel, rfl⟩
theorem eL_383 : Dc code 383 (.invokevirtual 44) 3 386 := ⟨by decide +kernel, rfl⟩
theorem eL_386 : Dc code 386 (.if_icmp .eq 729) 3 389 := ⟨by decide +kernel, rfl⟩
theorem eL_389 : Dc code 389 (.iconst 0) 1 390 := ⟨by decide +kernel, rfl⟩
theorem eL_390 : Dc code 390 (.ireturn) 1 391 := ⟨by decide +kernel, rfl⟩
theorem eL_391 : Dc code 391 (.aload_n 1) 1 392 := ⟨by decide +kernel, rfl⟩
theorem eL_392 : Dc code 392 (.aload_n 0) 1 393 := ⟨by decide +kernel, rfl⟩
theorem eL_393 : Dc code 393 (.iload_n 3) 1 394 := ⟨by decide +kernel, rfl⟩
theorem eL_394 : Dc code 394 (.iconst 1) 1 395 := ⟨by decide +kernel, rfl⟩
theorem eL_395 : Dc code 395 (.iadd) 1 396 := ⟨by decide +kernel, rfl⟩
theorem eL_396 : Dc code 396 (.iaload) 1 397 := ⟨by decide +kernel, rfl⟩
theorem eL_397 : Dc code 397 (.aload_n 0) 1 398 := ⟨by decide +kernel, rfl⟩
theorem eL_398 : Dc code 398 (.iload_n 3) 1 399 := ⟨by decide +kernel, rfl⟩
theorem eL_399 : Dc code 399 (.iconst 2) 1 400 := ⟨by decide +kernel, rfl⟩
theorem eL_400 : Dc code 400 (.iadd) 1 401 := ⟨by decide +kernel, rfl⟩
theorem eL_401 : Dc code 401 (.iaload) 1 402 := ⟨by decide +kernel, rfl⟩
theorem eL_402 : Dc code 402 (.invokevirtual 45) 3 405 := ⟨by decide +kernel, rfl⟩
theorem eL_405 : Dc code 405 (.aload_n 2) 1 406 := ⟨by decide +kernel, rfl⟩
theorem eL_406 : Dc code 406 (.aload_n 0) 1 407 := ⟨by decide +kernel, rfl⟩
theorem eL_407 : Dc code 407 (.iload_n 3) 1 408 := ⟨by decide +kernel, rfl⟩
theorem eL_408 : Dc code 408 (.iconst 1) 1 409 := ⟨by decide +kernel, rfl⟩
theorem eL_409 : Dc code 409 (.iadd) 1 410 := ⟨by decide +kernel, rfl⟩
theorem eL_410 : Dc code 410 (.iaload) 1 411 := ⟨by decide +kernel, rfl⟩
theorem eL_411 : Dc code 411 (.aload_n 0) 1 412 := ⟨by decide +kernel, rfl⟩
theorem eL_412 : Dc code 412 (.iload_n 3) 1 413 := ⟨by decide +kernel, rfl⟩
theorem eL_413 : Dc code 413 (.iconst 2) 1 414 := ⟨by decide +kernel, rfl⟩
theorem eL_414 : Dc code 414 (.iadd) 1 415 := ⟨by decide +kernel, rfl⟩
theorem eL_415 : Dc code 415 (.iaload) 1 416 := ⟨by decide +kernel, rfl⟩
theorem eL_416 : Dc code 416 (.invokevirtual 49) 3 419 := ⟨by decide +kernel, rfl⟩
theorem eL_419 : Dc code 419 (.if_icmp .eq 696) 3 422 := ⟨by decide +kernel, rfl⟩
theorem eL_422 : Dc code 422 (.iconst 0) 1 423 := ⟨by decide +kernel, rfl⟩
theorem eL_423 : Dc code 423 (.ireturn) 1 424 := ⟨by decide +kernel, rfl⟩
theorem eL_424 : Dc code 424 (.aload_n 1) 1 425 := ⟨by decide +kernel, rfl⟩
theorem eL_425 : Dc code 425 (.aload_n 0) 1 426 := ⟨by decide +kernel, rfl⟩
theorem eL_426 : Dc code 426 (.iload_n 3) 1 427 := ⟨by decide +kernel, rfl⟩
theorem eL_427 : Dc code 427 (.iconst 1) 1 428 := ⟨by decide +kernel, rfl⟩
theorem eL_428 : Dc code 428 (.iadd) 1 429 := ⟨by decide +kernel, rfl⟩
theorem eL_429 : Dc code 429 (.iaload) 1 430 := ⟨by decide +kernel, rfl⟩
theorem eL_430 : Dc code 430 (.aload_n 0) 1 431 := ⟨by decide +kernel, rfl⟩
theorem eL_431 : Dc code 431 (.iload_n 3) 1 432 := ⟨by decide +kernel, rfl⟩
theorem eL_432 : Dc code 432 (.iconst 2) 1 433 := ⟨by decide +kernel, rfl⟩
theorem eL_433 : Dc code 433 (.iadd) 1 434 := ⟨by decide +kernel, rfl⟩
theorem eL_434 : Dc code 434 (.iaload) 1 435 := ⟨by decide +kernel, rfl⟩
theorem eL_435 : Dc code 435 (.invokevirtual 50) 3 438 := ⟨by decide +kernel, rfl⟩
theorem eL_438 : Dc code 438 (.aload_n 2) 1 439 := ⟨by decide +kernel, rfl⟩
theorem eL_439 : Dc code 439 (.aload_n 0) 1 440 := ⟨by decide +kernel, rfl⟩
theorem eL_440 : Dc code 440 (.iload_n 3) 1 441 := ⟨by decide +kernel, rfl⟩
theorem eL_441 : Dc code 441 (.iconst 1) 1 442 := ⟨by decide +kernel, rfl⟩
theorem eL_442 : Dc code 442 (.iadd) 1 443 := ⟨by decide +kernel, rfl⟩
theorem eL_443 : Dc code 443 (.iaload) 1 444 := ⟨by decide +kernel, rfl⟩
theorem eL_444 : Dc code 444 (.aload_n 0) 1 445 := ⟨by decide +kernel, rfl⟩
theorem eL_445 : Dc code 445 (.iload_n 3) 1 446 := ⟨by decide +kernel, rfl⟩
theorem eL_446 : Dc code 446 (.iconst 2) 1 447 := ⟨by decide +kernel, rfl⟩
theorem eL_447 : Dc code 447 (.iadd) 1 448 := ⟨by decide +kernel, rfl⟩
theorem eL_448 : Dc code 448 (.iaload) 1 449 := ⟨by decide +kernel, rfl⟩
theorem eL_449 : Dc code 449 (.invokevirtual 53) 3 452 := ⟨by decide +kernel, rfl⟩
theorem eL_452 : Dc code 452 (.if_icmp .eq 663) 3 455 := ⟨by decide +kernel, rfl⟩
theorem eL_455 : Dc code 455 (.iconst 0) 1 456 := ⟨by decide +kernel, rfl⟩
theorem eL_456 : Dc code 456 (.ireturn) 1 457 := ⟨by decide +kernel, rfl⟩
theorem eL_457 : Dc code 457 (.aload_n 1) 1 458 := ⟨by decide +kernel, rfl⟩
theorem eL_458 : Dc code 458 (.aload_n 0) 1 459 := ⟨by decide +kernel, rfl⟩
theorem eL_459 : Dc code 459 (.iload_n 3) 1 460 := ⟨by decide +kernel, rfl⟩
theorem eL_460 : Dc code 460 (.iconst 1) 1 461 := ⟨by decide +kernel, rfl⟩
theorem eL_461 : Dc code 461 (.iadd) 1 462 := ⟨by decide +kernel, rfl⟩
theorem eL_462 : Dc code 462 (.iaload) 1 463 := ⟨by decide +kernel, rfl⟩
theorem eL_463 : Dc code 463 (.invokevirtual 54) 3 466 := ⟨by decide +kernel, rfl⟩
theorem eL_466 : Dc code 466 (.aload_n 2) 1 467 := ⟨by decide +kernel, rfl⟩
theorem eL_467 : Dc code 467 (.aload_n 0) 1 468 := ⟨by decide +kernel, rfl⟩
theorem eL_468 : Dc code 468 (.iload_n 3) 1 469 := ⟨by decide +kernel, rfl⟩
theorem eL_469 : Dc code 469 (.iconst 1) 1 470 := ⟨by decide +kernel, rfl⟩
theorem eL_470 : Dc code 470 (.iadd) 1 471 := ⟨by decide +kernel, rfl⟩
theorem eL_471 : Dc code 471 (.iaload) 1 472 := ⟨by decide +kernel, rfl⟩
theorem eL_472 : Dc code 472 (.invokevirtual 57) 3 475 := ⟨by decide +kernel, rfl⟩
theorem eL_475 : Dc code 475 (.if_icmp .eq 640) 3 478 := ⟨by decide +kernel, rfl⟩
theorem eL_478 : Dc code 478 (.iconst 0) 1 479 := ⟨by decide +kernel, rfl⟩
theorem eL_479 : Dc code 479 (.ireturn) 1 480 := ⟨by decide +kernel, rfl⟩
theorem eL_480 : Dc code 480 (.aload_n 1) 1 481 := ⟨by decide +kernel, rfl⟩
theorem eL_481 : Dc code 481 (.invokevirtual 58) 3 484 := ⟨by decide +kernel, rfl⟩
theorem eL_484 : Dc code 484 (.aload_n 2) 1 485 := ⟨by decide +kernel, rfl⟩
theorem eL_485 : Dc code 485 (.invokevirtual 61) 3 488 := ⟨by decide +kernel, rfl⟩
theorem eL_488 : Dc code 488 (.if_icmp .eq 627) 3 491 := ⟨by decide +kernel, rfl⟩
theorem eL_491 : Dc code 491 (.iconst 0) 1 492 := ⟨by decide +kernel, rfl⟩
theorem eL_492 : Dc code 492 (.ireturn) 1 493 := ⟨by decide +kernel, rfl⟩
theorem eL_493 : Dc code 493 (.aload_n 1) 1 494 := ⟨by decide +kernel, rfl⟩
theorem eL_494 : Dc code 494 (.aload_n 0) 1 495 := ⟨by decide +kernel, rfl⟩
theorem eL_495 : Dc code 495 (.iload_n 3) 1 496 := ⟨by decide +kernel, rfl⟩
theorem eL_496 : Dc code 496 (.iconst 1) 1 497 := ⟨by decide +kernel, rfl⟩
theorem eL_497 : Dc code 497 (.iadd) 1 498 := ⟨by decide +kernel, rfl⟩
theorem eL_498 : Dc code 498 (.iaload) 1 499 := ⟨by decide +kernel, rfl⟩
theorem eL_499 : Dc code 499 (.invokevirtual 62) 3 502 := ⟨by decide +kernel, rfl⟩
theorem eL_502 : Dc code 502 (.aload_n 2) 1 503 := ⟨by decide +kernel, rfl⟩
theorem eL_503 : Dc code 503 (.aload_n 0) 1 504 := ⟨by decide +kernel, rfl⟩
theorem eL_504 : Dc code 504 (.iload_n 3) 1 505 := ⟨by decide +kernel, rfl⟩
theorem eL_505 : Dc code 505 (.iconst 1) 1 506 := ⟨by decide +kernel, rfl⟩
theorem eL_506 : Dc code 506 (.iadd) 1 507 := ⟨by decide +kernel, rfl⟩
theorem eL_507 : Dc code 507 (.iaload) 1 508 := ⟨by decide +kernel, rfl⟩
theorem eL_508 : Dc code 508 (.invokevirtual 65) 3 511 := ⟨by decide +kernel, rfl⟩
theorem eL_511 : Dc code 511 (.if_icmp .eq 604) 3 514 := ⟨by decide +kernel, rfl⟩
theorem eL_514 : Dc code 514 (.iconst 0) 1 515 := ⟨by decide +kernel, rfl⟩
theorem eL_515 : Dc code 515 (.ireturn) 1 516 := ⟨by decide +kernel, rfl⟩
theorem eL_516 : Dc code 516 (.aload_n 1) 1 517 := ⟨by decide +kernel, rfl⟩
theorem eL_517 : Dc code 517 (.aload_n 0) 1 518 := ⟨by decide +kernel, rfl⟩
theorem eL_518 : Dc code 518 (.iload_n 3) 1 519 := ⟨by decide +kernel, rfl⟩
theorem eL_519 : Dc code 519 (.iconst 1) 1 520 := ⟨by decide +kernel, rfl⟩
theorem eL_520 : Dc code 520 (.iadd) 1 521 := ⟨by decide +kernel, rfl⟩
theorem eL_521 : Dc code 521 (.iaload) 1 522 := ⟨by decide +kernel, rfl⟩
theorem eL_522 : Dc code 522 (.invokevirtual 66) 3 525 := ⟨by decide +kernel, rfl⟩
theorem eL_525 : Dc code 525 (.aload_n 2) 1 526 := ⟨by decide +kernel, rfl⟩
theorem eL_526 : Dc code 526 (.aload_n 0) 1 527 := ⟨by decide +kernel, rfl⟩
theorem eL_527 : Dc code 527 (.iload_n 3) 1 528 := ⟨by decide +kernel, rfl⟩
theorem eL_528 : Dc code 528 (.iconst 1) 1 529 := ⟨by decide +kernel, rfl⟩
theorem eL_529 : Dc code 529 (.iadd) 1 530 := ⟨by decide +kernel, rfl⟩
theorem eL_530 : Dc code 530 (.iaload) 1 531 := ⟨by decide +kernel, rfl⟩
theorem eL_531 : Dc code 531 (.invokevirtual 69) 3 534 := ⟨by decide +kernel, rfl⟩
theorem eL_534 : Dc code 534 (.if_icmp .eq 581) 3 537 := ⟨by decide +kernel, rfl⟩
theorem eL_537 : Dc code 537 (.iconst 0) 1 538 := ⟨by decide +kernel, rfl⟩
theorem eL_538 : Dc code 538 (.ireturn) 1 539 := ⟨by decide +kernel, rfl⟩
theorem eL_539 : Dc code 539 (.aload_n 1) 1 540 := ⟨by decide +kernel, rfl⟩
theorem eL_540 : Dc code 540 (.invokevirtual 70) 3 543 := ⟨by decide +kernel, rfl⟩
theorem eL_543 : Dc code 543 (.aload_n 2) 1 544 := ⟨by decide +kernel, rfl⟩
theorem eL_544 : Dc code 544 (.invokevirtual 73) 3 547 := ⟨by decide +kernel, rfl⟩
theorem eL_547 : Dc code 547 (.if_icmp .eq 568) 3 550 := ⟨by decide +kernel, rfl⟩
theorem eL_550 : Dc code 550 (.iconst 0) 1 551 := ⟨by decide +kernel, rfl⟩
theorem eL_551 : Dc code 551 (.ireturn) 1 552 := ⟨by decide +kernel, rfl⟩
theorem eL_552 : Dc code 552 (.aload_n 1) 1 553 := ⟨by decide +kernel, rfl⟩
theorem eL_553 : Dc code 553 (.aload_n 0) 1 554 := ⟨by decide +kernel, rfl⟩
theorem eL_554 : Dc code 554 (.iload_n 3) 1 555 := ⟨by decide +kernel, rfl⟩
theorem eL_555 : Dc code 555 (.iconst 1) 1 556 := ⟨by decide +kernel, rfl⟩
theorem eL_556 : Dc code 556 (.iadd) 1 557 := ⟨by decide +kernel, rfl⟩
theorem eL_557 : Dc code 557 (.iaload) 1 558 := ⟨by decide +kernel, rfl⟩
theorem eL_558 : Dc code 558 (.invokevirtual 74) 3 561 := ⟨by decide +kernel, rfl⟩
theorem eL_561 : Dc code 561 (.aload_n 2) 1 562 := ⟨by decide +kernel, rfl⟩
theorem eL_562 : Dc code 562 (.aload_n 0) 1 563 := ⟨by decide +kernel, rfl⟩
theorem eL_563 : Dc code 563 (.iload_n 3) 1 564 := ⟨by decide +kernel, rfl⟩
theorem eL_564 : Dc code 564 (.iconst 1) 1 565 := ⟨by decide +kernel, rfl⟩
theorem eL_565 : Dc code 565 (.iadd) 1 566 := ⟨by decide +kernel, rfl⟩
theorem eL_566 : Dc code 566 (.iaload) 1 567 := ⟨by decide +kernel, rfl⟩
theorem eL_567 : Dc code 567 (.invokevirtual 77) 3 570 := ⟨by decide +kernel, rfl⟩
theorem eL_570 : Dc code 570 (.if_icmp .eq 545) 3 573 := ⟨by decide +kernel, rfl⟩
theorem eL_573 : Dc code 573 (.iconst 0) 1 574 := ⟨by decide +kernel, rfl⟩
theorem eL_574 : Dc code 574 (.ireturn) 1 575 := ⟨by decide +kernel, rfl⟩
theorem eL_575 : Dc code 575 (.aload_n 1) 1 576 := ⟨by decide +kernel, rfl⟩
theorem eL_576 : Dc code 576 (.invokevirtual 78) 3 579 := ⟨by decide +kernel, rfl⟩
theorem eL_579 : Dc code 579 (.aload_n 2) 1 580 := ⟨by decide +kernel, rfl⟩
theorem eL_580 : Dc code 580 (.invokevirtual 81) 3 583 := ⟨by decide +kernel, rfl⟩
theorem eL_583 : Dc code 583 (.if_icmp .eq 532) 3 586 := ⟨by decide +kernel, rfl⟩
theorem eL_586 : Dc code 586 (.iconst 0) 1 587 := ⟨by decide +kernel, rfl⟩
theorem eL_587 : Dc code 587 (.ireturn) 1 588 := ⟨by decide +kernel, rfl⟩
theorem eL_588 : Dc code 588 (.aload_n 1) 1 589 := ⟨by decide +kernel, rfl⟩
theorem eL_589 : Dc code 589 (.aload_n 0) 1 590 := ⟨by decide +kernel, rfl⟩
theorem eL_590 : Dc code 590 (.iload_n 3) 1 591 := ⟨by decide +kernel, rfl⟩
theorem eL_591 : Dc code 591 (.iconst 1) 1 592 := ⟨by decide +kernel, rfl⟩
theorem eL_592 : Dc code 592 (.iadd) 1 593 := ⟨by decide +kernel, rfl⟩
theorem eL_593 : Dc code 593 (.iaload) 1 594 := ⟨by decide +kernel, rfl⟩
theorem eL_594 : Dc code 594 (.aload_n 0) 1 595 := ⟨by decide +kernel, rfl⟩
theorem eL_595 : Dc code 595 (.iload_n 3) 1 596 := ⟨by decide +kernel, rfl⟩
theorem eL_596 : Dc code 596 (.iconst 2) 1 597 := ⟨by decide +kernel, rfl⟩
theorem eL_597 : Dc code 597 (.iadd) 1 598 := ⟨by decide +kernel, rfl⟩
theorem eL_598 : Dc code 598 (.iaload) 1 599 := ⟨by decide +kernel, rfl⟩
theorem eL_599 : Dc code 599 (.aload_n 0) 1 600 := ⟨by decide +kernel, rfl⟩
theorem eL_600 : Dc code 600 (.iload_n 3) 1 601 := ⟨by decide +kernel, rfl⟩
theorem eL_601 : Dc code 601 (.iconst 3) 1 602 := ⟨by decide +kernel, rfl⟩
theorem eL_602 : Dc code 602 (.iadd) 1 603 := ⟨by decide +kernel, rfl⟩
theorem eL_603 : Dc code 603 (.iaload) 1 604 := ⟨by decide +kernel, rfl⟩
theorem eL_604 : Dc code 604 (.invokevirtual 82) 3 607 := ⟨by decide +kernel, rfl⟩
theorem eL_607 : Dc code 607 (.aload_n 2) 1 608 := ⟨by decide +kernel, rfl⟩
theorem eL_608 : Dc code 608 (.aload_n 0) 1 609 := ⟨by decide +kernel, rfl⟩
theorem eL_609 : Dc code 609 (.iload_n 3) 1 610 := ⟨by decide +kernel, rfl⟩
theorem eL_610 : Dc code 610 (.iconst 1) 1 611 := ⟨by decide +kernel, rfl⟩
theorem eL_611 : Dc code 611 (.iadd) 1 612 := ⟨by decide +kernel, rfl⟩
theorem eL_612 : Dc code 612 (.iaload) 1 613 := ⟨by decide +kernel, rfl⟩
theorem eL_613 : Dc code 613 (.aload_n 0) 1 614 := ⟨by decide +kernel, rfl⟩
theorem eL_614 : Dc code 614 (.iload_n 3) 1 615 := ⟨by decide +kernel, rfl⟩
theorem eL_615 : Dc code 615 (.iconst 2) 1 616 := ⟨by decide +kernel, rfl⟩
theorem eL_616 : Dc code 616 (.iadd) 1 617 := ⟨by decide +kernel, rfl⟩
theorem eL_617 : Dc code 617 (.iaload) 1 618 := ⟨by decide +kernel, rfl⟩
theorem eL_618 : Dc code 618 (.aload_n 0) 1 619 := ⟨by decide +kernel, rfl⟩
theorem eL_619 : Dc code 619 (.iload_n 3) 1 620 := ⟨by decide +kernel, rfl⟩
theorem eL_620 : Dc code 620 (.iconst 3) 1 621 := ⟨by decide +kernel, rfl⟩
theorem eL_621 : Dc code 621 (.iadd) 1 622 := ⟨by decide +kernel, rfl⟩
theorem eL_622 : Dc code 622 (.iaload) 1 623 := ⟨by decide +kernel, rfl⟩
theorem eL_623 : Dc code 623 (.invokevirtual 86) 3 626 := ⟨by decide +kernel, rfl⟩
theorem eL_626 : Dc code 626 (.if_icmp .eq 489) 3 629 := ⟨by decide +kernel, rfl⟩
theorem eL_629 : Dc code 629 (.iconst 0) 1 630 := ⟨by decide +kernel, rfl⟩
theorem eL_630 : Dc code 630 (.ireturn) 1 631 := ⟨by decide +kernel, rfl⟩
theorem eL_631 : Dc code 631 (.aload_n 1) 1 632 := ⟨by decide +kernel, rfl⟩
theorem eL_632 : Dc code 632 (.aload_n 0) 1 633 := ⟨by decide +kernel, rfl⟩
theorem eL_633 : Dc code 633 (.iload_n 3) 1 634 := ⟨by decide +kernel, rfl⟩
theorem eL_634 : Dc code 634 (.iconst 1) 1 635 := ⟨by decide +kernel, rfl⟩
theorem eL_635 : Dc code 635 (.iadd) 1 636 := ⟨by decide +kernel, rfl⟩
theorem eL_636 : Dc code 636 (.iaload) 1 637 := ⟨by decide +kernel, rfl⟩
theorem eL_637 : Dc code 637 (.aload_n 0) 1 638 := ⟨by decide +kernel, rfl⟩
theorem eL_638 : Dc code 638 (.iload_n 3) 1 639 := ⟨by decide +kernel, rfl⟩
theorem eL_639 : Dc code 639 (.iconst 2) 1 640 := ⟨by decide +kernel, rfl⟩
theorem eL_640 : Dc code 640 (.iadd) 1 641 := ⟨by decide +kernel, rfl⟩
theorem eL_641 : Dc code 641 (.iaload) 1 642 := ⟨by decide +kernel, rfl⟩
theorem eL_642 : Dc code 642 (.invokevirtual 87) 3 645 := ⟨by decide +kernel, rfl⟩
theorem eL_645 : Dc code 645 (.aload_n 2) 1 646 := ⟨by decide +kernel, rfl⟩
theorem eL_646 : Dc code 646 (.aload_n 0) 1 647 := ⟨by decide +kernel, rfl⟩
theorem eL_647 : Dc code 647 (.iload_n 3) 1 648 := ⟨by decide +kernel, rfl⟩
theorem eL_648 : Dc code 648 (.iconst 1) 1 649 := ⟨by decide +kernel, rfl⟩
theorem eL_649 : Dc code 649 (.iadd) 1 650 := ⟨by decide +kernel, rfl⟩
theorem eL_650 : Dc code 650 (.iaload) 1 651 := ⟨by decide +kernel, rfl⟩
theorem eL_651 : Dc code 651 (.aload_n 0) 1 652 := ⟨by decide +kernel, rfl⟩
theorem eL_652 : Dc code 652 (.iload_n 3) 1 653 := ⟨by decide +kernel, rfl⟩
theorem eL_653 : Dc code 653 (.iconst 2) 1 654 := ⟨by decide +kernel, rfl⟩
theorem eL_654 : Dc code 654 (.iadd) 1 655 := ⟨by decide +kernel, rfl⟩
theorem eL_655 : Dc code 655 (.iaload) 1 656 := ⟨by decide +kernel, rfl⟩
theorem eL_656 : Dc code 656 (.invokevirtual 90) 3 659 := ⟨by decide +kernel, rfl⟩
theorem eL_659 : Dc code 659 (.if_icmp .eq 456) 3 662 := ⟨by decide +kernel, rfl⟩
theorem eL_662 : Dc code 662 (.iconst 0) 1 663 := ⟨by decide +kernel, rfl⟩
theorem eL_663 : Dc code 663 (.ireturn) 1 664 := ⟨by decide +kernel, rfl⟩
theorem eL_664 : Dc code 664 (.aload_n 1) 1 665 := ⟨by decide +kernel, rfl⟩
theorem eL_665 : Dc code 665 (.aload_n 0) 1 666 := ⟨by decide +kernel, rfl⟩
theorem eL_666 : Dc code 666 (.iload_n 3) 1 667 := ⟨by decide +kernel, rfl⟩
theorem eL_667 : Dc code 667 (.iconst 1) 1 668 := ⟨by decide +kernel, rfl⟩
theorem eL_668 : Dc code 668 (.iadd) 1 669 := ⟨by decide +kernel, rfl⟩
theorem eL_669 : Dc code 669 (.iaload) 1 670 := ⟨by decide +kernel, rfl⟩
theorem eL_670 : Dc code 670 (.aload_n 0) 1 671 := ⟨by decide +kernel, rfl⟩
theorem eL_671 : Dc code 671 (.iload_n 3) 1 672 := ⟨by decide +kernel, rfl⟩
theorem eL_672 : Dc code 672 (.iconst 2) 1 673 := ⟨by decide +kernel, rfl⟩
theorem eL_673 : Dc code 673 (.iadd) 1 674 := ⟨by decide +kernel, rfl⟩
theorem eL_674 : Dc code 674 (.iaload) 1 675 := ⟨by decide +kernel, rfl⟩
theorem eL_675 : Dc code 675 (.aload_n 0) 1 676 := ⟨by decide +kernel, rfl⟩
theorem eL_676 : Dc code 676 (.iload_n 3) 1 677 := ⟨by decide +kernel, rfl⟩
theorem eL_677 : Dc code 677 (.iconst 3) 1 678 := ⟨by decide +kernel, rfl⟩
theorem eL_678 : Dc code 678 (.iadd) 1 679 := ⟨by decide +kernel, rfl⟩
theorem eL_679 : Dc code 679 (.iaload) 1 680 := ⟨by decide +kernel, rfl⟩
theorem eL_680 : Dc code 680 (.invokevirtual 91) 3 683 := ⟨by decide +kernel, rfl⟩
theorem eL_683 : Dc code 683 (.aload_n 2) 1 684 := ⟨by decide +kernel, rfl⟩
theorem eL_684 : Dc code 684 (.aload_n 0) 1 685 := ⟨by decide +kernel, rfl⟩
theorem eL_685 : Dc code 685 (.iload_n 3) 1 686 := ⟨by decide +kernel, rfl⟩
theorem eL_686 : Dc code 686 (.iconst 1) 1 687 := ⟨by decide +kernel, rfl⟩
theorem eL_687 : Dc code 687 (.iadd) 1 688 := ⟨by decide +kernel, rfl⟩
theorem eL_688 : Dc code 688 (.iaload) 1 689 := ⟨by decide +kernel, rfl⟩
theorem eL_689 : Dc code 689 (.aload_n 0) 1 690 := ⟨by decide +kernel, rfl⟩
theorem eL_690 : Dc code 690 (.iload_n 3) 1 691 := ⟨by decide +kernel, rfl⟩
theorem eL_691 : Dc code 691 (.iconst 2) 1 692 := ⟨by decide +kernel, rfl⟩
theorem eL_692 : Dc code 692 (.iadd) 1 693 := ⟨by decide +kernel, rfl⟩
theorem eL_693 : Dc code 693 (.iaload) 1 694 := ⟨by decide +kernel, rfl⟩
theorem eL_694 : Dc code 694 (.aload_n 0) 1 695 := ⟨by decide +kernel, rfl⟩
theorem eL_695 : Dc code 695 (.iload_n 3) 1 696 := ⟨by decide +kernel, rfl⟩
theorem eL_696 : Dc code 696 (.iconst 3) 1 697 := ⟨by decide +kernel, rfl⟩
theorem eL_697 : Dc code 697 (.iadd) 1 698 := ⟨by decide +kernel, rfl⟩
theorem eL_698 : Dc code 698 (.iaload) 1 699 := ⟨by decide +kernel, rfl⟩
theorem eL_699 : Dc code 699 (.invokevirtual 94) 3 702 := ⟨by decide +kernel, rfl⟩
theorem eL_702 : Dc code 702 (.if_icmp .eq 413) 3 705 := ⟨by decide +kernel, rfl⟩
theorem eL_705 : Dc code 705 (.iconst 0) 1 706 := ⟨by decide +kernel, rfl⟩
theorem eL_706 : Dc code 706 (.ireturn) 1 707 := ⟨by decide +kernel, rfl⟩
theorem eL_707 : Dc code 707 (.aload_n 1) 1 708 := ⟨by decide +kernel, rfl⟩
theorem eL_708 : Dc code 708 (.aload_n 0) 1 709 := ⟨by decide +kernel, rfl⟩
theorem eL_709 : Dc code 709 (.iload_n 3) 1 710 := ⟨by decide +kernel, rfl⟩
theorem eL_710 : Dc code 710 (.iconst 1) 1 711 := ⟨by decide +kernel, rfl⟩
theorem eL_711 : Dc code 711 (.iadd) 1 712 := ⟨by decide +kernel, rfl⟩
theorem eL_712 : Dc code 712 (.iaload) 1 713 := ⟨by decide +kernel, rfl⟩
theorem eL_713 : Dc code 713 (.invokevirtual 95) 3 716 := ⟨by decide +kernel, rfl⟩
theorem eL_716 : Dc code 716 (.aload_n 2) 1 717 := ⟨by decide +kernel, rfl⟩
theorem eL_717 : Dc code 717 (.aload_n 0) 1 718 := ⟨by decide +kernel, rfl⟩
theorem eL_718 : Dc code 718 (.iload_n 3) 1 719 := ⟨by decide +kernel, rfl⟩
theorem eL_719 : Dc code 719 (.iconst 1) 1 720 := ⟨by decide +kernel, rfl⟩
theorem eL_720 : Dc code 720 (.iadd) 1 721 := ⟨by decide +kernel, rfl⟩
theorem eL_721 : Dc code 721 (.iaload) 1 722 := ⟨by decide +kernel, rfl⟩
theorem eL_722 : Dc code 722 (.invokevirtual 98) 3 725 := ⟨by decide +kernel, rfl⟩
theorem eL_725 : Dc code 725 (.if_icmp .eq 390) 3 728 := ⟨by decide +kernel, rfl⟩
theorem eL_728 : Dc code 728 (.iconst 0) 1 729 := ⟨by decide +kernel, rfl⟩
theorem eL_729 : Dc code 729 (.ireturn) 1 730 := ⟨by decide +kernel, rfl⟩
theorem eL_730 : Dc code 730 (.aload_n 1) 1 731 := ⟨by decide +kernel, rfl⟩
theorem eL_731 : Dc code 731 (.aload_n 0) 1 732 := ⟨by decide +kernel, rfl⟩
theorem eL_732 : Dc code 732 (.iload_n 3) 1 733 := ⟨by decide +kernel, rfl⟩
theorem eL_733 : Dc code 733 (.iconst 1) 1 734 := ⟨by decide +kernel, rfl⟩
theorem eL_734 : Dc code 734 (.iadd) 1 735 := ⟨by decide +kernel, rfl⟩
theorem eL_735 : Dc code 735 (.iaload) 1 736 := ⟨by decide +kernel, rfl⟩
theorem eL_736 : Dc code 736 (.aload_n 0) 1 737 := ⟨by decide +kernel, rfl⟩
theorem eL_737 : Dc code 737 (.iload_n 3) 1 738 := ⟨by decide +kernel, rfl⟩
theorem eL_738 : Dc code 738 (.iconst 2) 1 739 := ⟨by decide +kernel, rfl⟩
theorem eL_739 : Dc code 739 (.iadd) 1 740 := ⟨by decide +kernel, rfl⟩
theorem eL_740 : Dc code 740 (.iaload) 1 741 := ⟨by decide +kernel, rfl⟩
theorem eL_741 : Dc code 741 (.invokevirtual 99) 3 744 := ⟨by decide +kernel, rfl⟩
theorem eL_744 : Dc code 744 (.aload_n 2) 1 745 := ⟨by decide +kernel, rfl⟩
theorem eL_745 : Dc code 745 (.aload_n 0) 1 746 := ⟨by decide +kernel, rfl⟩
theorem eL_746 : Dc code 746 (.iload_n 3) 1 747 := ⟨by decide +kernel, rfl⟩
theorem eL_747 : Dc code 747 (.iconst 1) 1 748 := ⟨by decide +kernel, rfl⟩
theorem eL_748 : Dc code 748 (.iadd) 1 749 := ⟨by decide +kernel, rfl⟩
theorem eL_749 : Dc code 749 (.iaload) 1 750 := ⟨by decide +kernel, rfl⟩
theorem eL_750 : Dc code 750 (.aload_n 0) 1 751 := ⟨by decide +kernel, rfl⟩
theorem eL_751 : Dc code 751 (.iload_n 3) 1 752 := ⟨by decide +kernel, rfl⟩
theorem eL_752 : Dc code 752 (.iconst 2) 1 753 := ⟨by decide +kernel, rfl⟩
theorem eL_753 : Dc code 753 (.iadd) 1 754 := ⟨by decide +kernel, rfl⟩
theorem eL_754 : Dc code 754 (.iaload) 1 755 := ⟨by decide +kernel, rfl⟩
theorem eL_755 : Dc code 755 (.invokevirtual 102) 3 758 := ⟨by decide +kernel, rfl⟩
theorem eL_758 : Dc code 758 (.if_icmp .eq 357) 3 761 := ⟨by decide +kernel, rfl⟩
theorem eL_761 : Dc code 761 (.iconst 0) 1 762 := ⟨by decide +kernel, rfl⟩
theorem eL_762 : Dc code 762 (.ireturn) 1 763 := ⟨by decide +kernel, rfl⟩
theorem eL_763 : Dc code 763 (.aload_n 1) 1 764 := ⟨by decide +kernel, rfl⟩
theorem eL_764 : Dc code 764 (.aload_n 0) 1 765 := ⟨by decide +kernel, rfl⟩
theorem eL_765 : Dc code 765 (.iload_n 3) 1 766 := ⟨by decide +kernel, rfl⟩
theorem eL_766 : Dc code 766 (.iconst 1) 1 767 := ⟨by decide +kernel, rfl⟩
theorem eL_767 : Dc code 767 (.iadd) 1 768 := ⟨by decide +kernel, rfl⟩
theorem eL_768 : Dc code 768 (.iaload) 1 769 := ⟨by decide +kernel, rfl⟩
theorem eL_769 : Dc code 769 (.aload_n 0) 1 770 := ⟨by decide +kernel, rfl⟩
theorem eL_770 : Dc code 770 (.iload_n 3) 1 771 := ⟨by decide +kernel, rfl⟩
theorem eL_771 : Dc code 771 (.iconst 2) 1 772 := ⟨by decide +kernel, rfl⟩
theorem eL_772 : Dc code 772 (.iadd) 1 773 := ⟨by decide +kernel, rfl⟩
theorem eL_773 : Dc code 773 (.iaload) 1 774 := ⟨by decide +kernel, rfl⟩
theorem eL_774 : Dc code 774 (.invokevirtual 103) 3 777 := ⟨by decide +kernel, rfl⟩
theorem eL_777 : Dc code 777 (.aload_n 2) 1 778 := ⟨by decide +kernel, rfl⟩
theorem eL_778 : Dc code 778 (.aload_n 0) 1 779 := ⟨by decide +kernel, rfl⟩
theorem eL_779 : Dc code 779 (.iload_n 3) 1 780 := ⟨by decide +kernel, rfl⟩
theorem eL_780 : Dc code 780 (.iconst 1) 1 781 := ⟨by decide +kernel, rfl⟩
theorem eL_781 : Dc code 781 (.iadd) 1 782 := ⟨by decide +kernel, rfl⟩
theorem eL_782 : Dc code 782 (.iaload) 1 783 := ⟨by decide +kernel, rfl⟩
theorem eL_783 : Dc code 783 (.aload_n 0) 1 784 := ⟨by decide +kernel, rfl⟩
theorem eL_784 : Dc code 784 (.iload_n 3) 1 785 := ⟨by decide +kernel, rfl⟩
theorem eL_785 : Dc code 785 (.iconst 2) 1 786 := ⟨by decide +kernel, rfl⟩
theorem eL_786 : Dc code 786 (.iadd) 1 787 := ⟨by decide +kernel, rfl⟩
theorem eL_787 : Dc code 787 (.iaload) 1 788 := ⟨by decide +kernel, rfl⟩
theorem eL_788 : Dc code 788 (.invokevirtual 106) 3 791 := ⟨by decide +kernel, rfl⟩
theorem eL_791 : Dc code 791 (.if_icmp .eq 324) 3 794 := ⟨by decide +kernel, rfl⟩
theorem eL_794 : Dc code 794 (.iconst 0) 1 795 := ⟨by decide +kernel, rfl⟩
theorem eL_795 : Dc code 795 (.ireturn) 1 796 := ⟨by decide +kernel, rfl⟩
theorem eL_796 : Dc code 796 (.aload_n 1) 1 797 := ⟨by decide +kernel, rfl⟩
theorem eL_797 : Dc code 797 (.invokevirtual 107) 3 800 := ⟨by decide +kernel, rfl⟩
theorem eL_800 : Dc code 800 (.aload_n 2) 1 801 := ⟨by decide +kernel, rfl⟩
theorem eL_801 : Dc code 801 (.invokevirtual 110) 3 804 := ⟨by decide +kernel, rfl⟩
theorem eL_804 : Dc code 804 (.if_icmp .eq 311) 3 807 := ⟨by decide +kernel, rfl⟩
theorem eL_807 : Dc code 807 (.iconst 0) 1 808 := ⟨by decide +kernel, rfl⟩
theorem eL_808 : Dc code 808 (.ireturn) 1 809 := ⟨by decide +kernel, rfl⟩
theorem eL_809 : Dc code 809 (.aload_n 1) 1 810 := ⟨by decide +kernel, rfl⟩
theorem eL_810 : Dc code 810 (.aload_n 0) 1 811 := ⟨by decide +kernel, rfl⟩
theorem eL_811 : Dc code 811 (.iload_n 3) 1 812 := ⟨by decide +kernel, rfl⟩
theorem eL_812 : Dc code 812 (.iconst 1) 1 813 := ⟨by decide +kernel, rfl⟩
theorem eL_813 : Dc code 813 (.iadd) 1 814 := ⟨by decide +kernel, rfl⟩
theorem eL_814 : Dc code 814 (.iaload) 1 815 := ⟨by decide +kernel, rfl⟩
theorem eL_815 : Dc code 815 (.aload_n 0) 1 816 := ⟨by decide +kernel, rfl⟩
theorem eL_816 : Dc code 816 (.iload_n 3) 1 817 := ⟨by decide +kernel, rfl⟩
theorem eL_817 : Dc code 817 (.iconst 2) 1 818 := ⟨by decide +kernel, rfl⟩
theorem eL_818 : Dc code 818 (.iadd) 1 819 := ⟨by decide +kernel, rfl⟩
theorem eL_819 : Dc code 819 (.iaload) 1 820 := ⟨by decide +kernel, rfl⟩
theorem eL_820 : Dc code 820 (.invokevirtual 111) 3 823 := ⟨by decide +kernel, rfl⟩
theorem eL_823 : Dc code 823 (.aload_n 2) 1 824 := ⟨by decide +kernel, rfl⟩
theorem eL_824 : Dc code 824 (.aload_n 0) 1 825 := ⟨by decide +kernel, rfl⟩
theorem eL_825 : Dc code 825 (.iload_n 3) 1 826 := ⟨by decide +kernel, rfl⟩
theorem eL_826 : Dc code 826 (.iconst 1) 1 827 := ⟨by decide +kernel, rfl⟩
theorem eL_827 : Dc code 827 (.iadd) 1 828 := ⟨by decide +kernel, rfl⟩
theorem eL_828 : Dc code 828 (.iaload) 1 829 := ⟨by decide +kernel, rfl⟩
theorem eL_829 : Dc code 829 (.aload_n 0) 1 830 := ⟨by decide +kernel, rfl⟩
theorem eL_830 : Dc code 830 (.iload_n 3) 1 831 := ⟨by decide +kernel, rfl⟩
theorem eL_831 : Dc code 831 (.iconst 2) 1 832 := ⟨by decide +kernel, rfl⟩
theorem eL_832 : Dc code 832 (.iadd) 1 833 := ⟨by decide +kernel, rfl⟩
theorem eL_833 : Dc code 833 (.iaload) 1 834 := ⟨by decide +kernel, rfl⟩
theorem eL_834 : Dc code 834 (.invokevirtual 114) 3 837 := ⟨by decide +kernel, rfl⟩
theorem eL_837 : Dc code 837 (.if_icmp .eq 278) 3 840 := ⟨by decide +kernel, rfl⟩
theorem eL_840 : Dc code 840 (.iconst 0) 1 841 := ⟨by decide +kernel, rfl⟩
theorem eL_841 : Dc code 841 (.ireturn) 1 842 := ⟨by decide +kernel, rfl⟩
theorem eL_842 : Dc code 842 (.aload_n 1) 1 843 := ⟨by decide +kernel, rfl⟩
theorem eL_843 : Dc code 843 (.aload_n 0) 1 844 := ⟨by decide +kernel, rfl⟩
theorem eL_844 : Dc code 844 (.iload_n 3) 1 845 := ⟨by decide +kernel, rfl⟩
theorem eL_845 : Dc code 845 (.iconst 1) 1 846 := ⟨by decide +kernel, rfl⟩
theorem eL_846 : Dc code 846 (.iadd) 1 847 := ⟨by decide +kernel, rfl⟩
theorem eL_847 : Dc code 847 (.iaload) 1 848 := ⟨by decide +kernel, rfl⟩
theorem eL_848 : Dc code 848 (.aload_n 0) 1 849 := ⟨by decide +kernel, rfl⟩
theorem eL_849 : Dc code 849 (.iload_n 3) 1 850 := ⟨by decide +kernel, rfl⟩
theorem eL_850 : Dc code 850 (.iconst 2) 1 851 := ⟨by decide +kernel, rfl⟩
theorem eL_851 : Dc code 851 (.iadd) 1 852 := ⟨by decide +kernel, rfl⟩
theorem eL_852 : Dc code 852 (.iaload) 1 853 := ⟨by decide +kernel, rfl⟩
theorem eL_853 : Dc code 853 (.aload_n 0) 1 854 := ⟨by decide +kernel, rfl⟩
theorem eL_854 : Dc code 854 (.iload_n 3) 1 855 := ⟨by decide +kernel, rfl⟩
theorem eL_855 : Dc code 855 (.iconst 3) 1 856 := ⟨by decide +kernel, rfl⟩
theorem eL_856 : Dc code 856 (.iadd) 1 857 := ⟨by decide +kernel, rfl⟩
theorem eL_857 : Dc code 857 (.iaload) 1 858 := ⟨by decide +kernel, rfl⟩
theorem eL_858 : Dc code 858 (.aload_n 0) 1 859 := ⟨by decide +kernel, rfl⟩
theorem eL_859 : Dc code 859 (.iload_n 3) 1 860 := ⟨by decide +kernel, rfl⟩
theorem eL_860 : Dc code 860 (.iconst 4) 1 861 := ⟨by decide +kernel, rfl⟩
theorem eL_861 : Dc code 861 (.iadd) 1 862 := ⟨by decide +kernel, rfl⟩
theorem eL_862 : Dc code 862 (.iaload) 1 863 := ⟨by decide +kernel, rfl⟩
theorem eL_863 : Dc code 863 (.invokevirtual 115) 3 866 := ⟨by decide +kernel, rfl⟩
theorem eL_866 : Dc code 866 (.aload_n 2) 1 867 := ⟨by decide +kernel, rfl⟩
theorem eL_867 : Dc code 867 (.aload_n 0) 1 868 := ⟨by decide +kernel, rfl⟩
theorem eL_868 : Dc code 868 (.iload_n 3) 1 869 := ⟨by decide +kernel, rfl⟩
theorem eL_869 : Dc code 869 (.iconst 1) 1 870 := ⟨by decide +kernel, rfl⟩
theorem eL_870 : Dc code 870 (.iadd) 1 871 := ⟨by decide +kernel, rfl⟩
theorem eL_871 : Dc code 871 (.iaload) 1 872 := ⟨by decide +kernel, rfl⟩
theorem eL_872 : Dc code 872 (.aload_n 0) 1 873 := ⟨by decide +kernel, rfl⟩
theorem eL_873 : Dc code 873 (.iload_n 3) 1 874 := ⟨by decide +kernel, rfl⟩
theorem eL_874 : Dc code 874 (.iconst 2) 1 875 := ⟨by decide +kernel, rfl⟩
theorem eL_875 : Dc code 875 (.iadd) 1 876 := ⟨by decide +kernel, rfl⟩
theorem eL_876 : Dc code 876 (.iaload) 1 877 := ⟨by decide +kernel, rfl⟩
theorem eL_877 : Dc code 877 (.aload_n 0) 1 878 := ⟨by decide +kernel, rfl⟩
theorem eL_878 : Dc code 878 (.iload_n 3) 1 879 := ⟨by decide +kernel, rfl⟩
theorem eL_879 : Dc code 879 (.iconst 3) 1 880 := ⟨by decide +kernel, rfl⟩
theorem eL_880 : Dc code 880 (.iadd) 1 881 := ⟨by decide +kernel, rfl⟩
theorem eL_881 : Dc code 881 (.iaload) 1 882 := ⟨by decide +kernel, rfl⟩
theorem eL_882 : Dc code 882 (.aload_n 0) 1 883 := ⟨by decide +kernel, rfl⟩
theorem eL_883 : Dc code 883 (.iload_n 3) 1 884 := ⟨by decide +kernel, rfl⟩
theorem eL_884 : Dc code 884 (.iconst 4) 1 885 := ⟨by decide +kernel, rfl⟩
theorem eL_885 : Dc code 885 (.iadd) 1 886 := ⟨by decide +kernel, rfl⟩
theorem eL_886 : Dc code 886 (.iaload) 1 887 := ⟨by decide +kernel, rfl⟩
theorem eL_887 : Dc code 887 (.invokevirtual 119) 3 890 := ⟨by decide +kernel, rfl⟩
theorem eL_890 : Dc code 890 (.lcmp) 1 891 := ⟨by decide +kernel, rfl⟩
theorem eL_891 : Dc code 891 (.ifCond .eq 224) 3 894 := ⟨by decide +kernel, rfl⟩
theorem eL_894 : Dc code 894 (.iconst 0) 1 895 := ⟨by decide +kernel, rfl⟩
theorem eL_895 : Dc code 895 (.ireturn) 1 896 := ⟨by decide +kernel, rfl⟩
theorem eL_896 : Dc code 896 (.aload_n 1) 1 897 := ⟨by decide +kernel, rfl⟩
theorem eL_897 : Dc code 897 (.aload_n 0) 1 898 := ⟨by decide +kernel, rfl⟩
theorem eL_898 : Dc code 898 (.iload_n 3) 1 899 := ⟨by decide +kernel, rfl⟩
theorem eL_899 : Dc code 899 (.iconst 1) 1 900 := ⟨by decide +kernel, rfl⟩
theorem eL_900 : Dc code 900 (.iadd) 1 901 := ⟨by decide +kernel, rfl⟩
theorem eL_901 : Dc code 901 (.iaload) 1 902 := ⟨by decide +kernel, rfl⟩
theorem eL_902 : Dc code 902 (.aload_n 0) 1 903 := ⟨by decide +kernel, rfl⟩
theorem eL_903 : Dc code 903 (.iload_n 3) 1 904 := ⟨by decide +kernel, rfl⟩
theorem eL_904 : Dc code 904 (.iconst 2) 1 905 := ⟨by decide +kernel, rfl⟩
theorem eL_905 : Dc code 905 (.iadd) 1 906 := ⟨by decide +kernel, rfl⟩
theorem eL_906 : Dc code 906 (.iaload) 1 907 := ⟨by decide +kernel, rfl⟩
theorem eL_907 : Dc code 907 (.aload_n 0) 1 908 := ⟨by decide +kernel, rfl⟩
theorem eL_908 : Dc code 908 (.iload_n 3) 1 909 := ⟨by decide +kernel, rfl⟩
theorem eL_909 : Dc code 909 (.iconst 3) 1 910 := ⟨by decide +kernel, rfl⟩
theorem eL_910 : Dc code 910 (.iadd) 1 911 := ⟨by decide +kernel, rfl⟩
theorem eL_911 : Dc code 911 (.iaload) 1 912 := ⟨by decide +kernel, rfl⟩
theorem eL_912 : Dc code 912 (.invokevirtual 120) 3 915 := ⟨by decide +kernel, rfl⟩
theorem eL_915 : Dc code 915 (.aload_n 2) 1 916 := ⟨by decide +kernel, rfl⟩
theorem eL_916 : Dc code 916 (.aload_n 0) 1 917 := ⟨by decide +kernel, rfl⟩
theorem eL_917 : Dc code 917 (.iload_n 3) 1 918 := ⟨by decide +kernel, rfl⟩
theorem eL_918 : Dc code 918 (.iconst 1) 1 919 := ⟨by decide +kernel, rfl⟩
theorem eL_919 : Dc code 919 (.iadd) 1 920 := ⟨by decide +kernel, rfl⟩
theorem eL_920 : Dc code 920 (.iaload) 1 921 := ⟨by decide +kernel, rfl⟩
theorem eL_921 : Dc code 921 (.aload_n 0) 1 922 := ⟨by decide +kernel, rfl⟩
theorem eL_922 : Dc code 922 (.iload_n 3) 1 923 := ⟨by decide +kernel, rfl⟩
theorem eL_923 : Dc code 923 (.iconst 2) 1 924 := ⟨by decide +kernel, rfl⟩
theorem eL_924 : Dc code 924 (.iadd) 1 925 := ⟨by decide +kernel, rfl⟩
theorem eL_925 : Dc code 925 (.iaload) 1 926 := ⟨by decide +kernel, rfl⟩
theorem eL_926 : Dc code 926 (.aload_n 0) 1 927 := ⟨by decide +kernel, rfl⟩
theorem eL_927 : Dc code 927 (.iload_n 3) 1 928 := ⟨by decide +kernel, rfl⟩
theorem eL_928 : Dc code 928 (.iconst 3) 1 929 := ⟨by decide +kernel, rfl⟩
theorem eL_929 : Dc code 929 (.iadd) 1 930 := ⟨by decide +kernel, rfl⟩
theorem eL_930 : Dc code 930 (.iaload) 1 931 := ⟨by decide +kernel, rfl⟩
theorem eL_931 : Dc code 931 (.invokevirtual 124) 3 934 := ⟨by decide +kernel, rfl⟩
theorem eL_934 : Dc code 934 (.lcmp) 1 935 := ⟨by decide +kernel, rfl⟩
theorem eL_935 : Dc code 935 (.ifCond .eq 180) 3 938 := ⟨by decide +kernel, rfl⟩
theorem eL_938 : Dc code 938 (.iconst 0) 1 939 := ⟨by decide +kernel, rfl⟩
theorem eL_939 : Dc code 939 (.ireturn) 1 940 := ⟨by decide +kernel, rfl⟩
theorem eL_940 : Dc code 940 (.aload_n 1) 1 941 := ⟨by decide +kernel, rfl⟩
theorem eL_941 : Dc code 941 (.aload_n 0) 1 942 := ⟨by decide +kernel, rfl⟩
theorem eL_942 : Dc code 942 (.iload_n 3) 1 943 := ⟨by decide +kernel, rfl⟩
theorem eL_943 : Dc code 943 (.iconst 1) 1 944 := ⟨by decide +kernel, rfl⟩
theorem eL_944 : Dc code 944 (.iadd) 1 945 := ⟨by decide +kernel, rfl⟩
theorem eL_945 : Dc code 945 (.iaload) 1 946 := ⟨by decide +kernel, rfl⟩
theorem eL_946 : Dc code 946 (.aload_n 0) 1 947 := ⟨by decide +kernel, rfl⟩
theorem eL_947 : Dc code 947 (.iload_n 3) 1 948 := ⟨by decide +kernel, rfl⟩
theorem eL_948 : Dc code 948 (.iconst 2) 1 949 := ⟨by decide +kernel, rfl⟩
theorem eL_949 : Dc code 949 (.iadd) 1 950 := ⟨by decide +kernel, rfl⟩
theorem eL_950 : Dc code 950 (.iaload) 1 951 := ⟨by decide +kernel, rfl⟩
theorem eL_951 : Dc code 951 (.aload_n 0) 1 952 := ⟨by decide +kernel, rfl⟩
theorem eL_952 : Dc code 952 (.iload_n 3) 1 953 := ⟨by decide +kernel, rfl⟩
theorem eL_953 : Dc code 953 (.iconst 3) 1 954 := ⟨by decide +kernel, rfl⟩
theorem eL_954 : Dc code 954 (.iadd) 1 955 := ⟨by decide +kernel, rfl⟩
theorem eL_955 : Dc code 955 (.iaload) 1 956 := ⟨by decide +kernel, rfl⟩
theorem eL_956 : Dc code 956 (.aload_n 0) 1 957 := ⟨by decide +kernel, rfl⟩
theorem eL_957 : Dc code 957 (.iload_n 3) 1 958 := ⟨by decide +kernel, rfl⟩
theorem eL_958 : Dc code 958 (.iconst 4) 1 959 := ⟨by decide +kernel, rfl⟩
theorem eL_959 : Dc code 959 (.iadd) 1 960 := ⟨by decide +kernel, rfl⟩
theorem eL_960 : Dc code 960 (.iaload) 1 961 := ⟨by decide +kernel, rfl⟩
theorem eL_961 : Dc code 961 (.aload_n 0) 1 962 := ⟨by decide +kernel, rfl⟩
theorem eL_962 : Dc code 962 (.iload_n 3) 1 963 := ⟨by decide +kernel, rfl⟩
theorem eL_963 : Dc code 963 (.iconst 5) 1 964 := ⟨by decide +kernel, rfl⟩
theorem eL_964 : Dc code 964 (.iadd) 1 965 := ⟨by decide +kernel, rfl⟩
theorem eL_965 : Dc code 965 (.iaload) 1 966 := ⟨by decide +kernel, rfl⟩
theorem eL_966 : Dc code 966 (.invokevirtual 125) 3 969 := ⟨by decide +kernel, rfl⟩
theorem eL_969 : Dc code 969 (.aload_n 2) 1 970 := ⟨by decide +kernel, rfl⟩
theorem eL_970 : Dc code 970 (.aload_n 0) 1 971 := ⟨by decide +kernel, rfl⟩
theorem eL_971 : Dc code 971 (.iload_n 3) 1 972 := ⟨by decide +kernel, rfl⟩
theorem eL_972 : Dc code 972 (.iconst 1) 1 973 := ⟨by decide +kernel, rfl⟩
theorem eL_973 : Dc code 973 (.iadd) 1 974 := ⟨by decide +kernel, rfl⟩
theorem eL_974 : Dc code 974 (.iaload) 1 975 := ⟨by decide +kernel, rfl⟩
theorem eL_975 : Dc code 975 (.aload_n 0) 1 976 := ⟨by decide +kernel, rfl⟩
theorem eL_976 : Dc code 976 (.iload_n 3) 1 977 := ⟨by decide +kernel, rfl⟩
theorem eL_977 : Dc code 977 (.iconst 2) 1 978 := ⟨by decide +kernel, rfl⟩
theorem eL_978 : Dc code 978 (.iadd) 1 979 := ⟨by decide +kernel, rfl⟩
theorem eL_979 : Dc code 979 (.iaload) 1 980 := ⟨by decide +kernel, rfl⟩
theorem eL_980 : Dc code 980 (.aload_n 0) 1 981 := ⟨by decide +kernel, rfl⟩
theorem eL_981 : Dc code 981 (.iload_n 3) 1 982 := ⟨by decide +kernel, rfl⟩
theorem eL_982 : Dc code 982 (.iconst 3) 1 983 := ⟨by decide +kernel, rfl⟩
theorem eL_983 : Dc code 983 (.iadd) 1 984 := ⟨by decide +kernel, rfl⟩
theorem eL_984 : Dc code 984 (.iaload) 1 985 := ⟨by decide +kernel, rfl⟩
theorem eL_985 : Dc code 985 (.aload_n 0) 1 986 := ⟨by decide +kernel, rfl⟩
theorem eL_986 : Dc code 986 (.iload_n 3) 1 987 := ⟨by decide +kernel, rfl⟩
theorem eL_987 : Dc code 987 (.iconst 4) 1 988 := ⟨by decide +kernel, rfl⟩
theorem eL_988 : Dc code 988 (.iadd) 1 989 := ⟨by decide +kernel, rfl⟩
theorem eL_989 : Dc code 989 (.iaload) 1 990 := ⟨by decide +kernel, rfl⟩
theorem eL_990 : Dc code 990 (.aload_n 0) 1 991 := ⟨by decide +kernel, rfl⟩
theorem eL_991 : Dc code 991 (.iload_n 3) 1 992 := ⟨by decide +kernel, rfl⟩
theorem eL_992 : Dc code 992 (.iconst 5) 1 993 := ⟨by decide +kernel, rfl⟩
theorem eL_993 : Dc code 993 (.iadd) 1 994 := ⟨by decide +kernel, rfl⟩
theorem eL_994 : Dc code 994 (.iaload) 1 995 := ⟨by decide +kernel, rfl⟩
theorem eL_995 : Dc code 995 (.invokevirtual 129) 3 998 := ⟨by decide +kernel, rfl⟩
theorem eL_998 : Dc code 998 (.if_icmp .eq 117) 3 1001 := ⟨by decide +kernel, rfl⟩
theorem eL_1001 : Dc code 1001 (.iconst 0) 1 1002 := ⟨by decide +kernel, rfl⟩
theorem eL_1002 : Dc code 1002 (.ireturn) 1 1003 := ⟨by decide +kernel, rfl⟩
theorem eL_1003 : Dc code 1003 (.aload_n 1) 1 1004 := ⟨by decide +kernel, rfl⟩
theorem eL_1004 : Dc code 1004 (.aload_n 0) 1 1005 := ⟨by decide +kernel, rfl⟩
theorem eL_1005 : Dc code 1005 (.iload_n 3) 1 1006 := ⟨by decide +kernel, rfl⟩
theorem eL_1006 : Dc code 1006 (.iconst 1) 1 1007 := ⟨by decide +kernel, rfl⟩
theorem eL_1007 : Dc code 1007 (.iadd) 1 1008 := ⟨by decide +kernel, rfl⟩
theorem eL_1008 : Dc code 1008 (.iaload) 1 1009 := ⟨by decide +kernel, rfl⟩
theorem eL_1009 : Dc code 1009 (.aload_n 0) 1 1010 := ⟨by decide +kernel, rfl⟩
theorem eL_1010 : Dc code 1010 (.iload_n 3) 1 1011 := ⟨by decide +kernel, rfl⟩
theorem eL_1011 : Dc code 1011 (.iconst 2) 1 1012 := ⟨by decide +kernel, rfl⟩
theorem eL_1012 : Dc code 1012 (.iadd) 1 1013 := ⟨by decide +kernel, rfl⟩
theorem eL_1013 : Dc code 1013 (.iaload) 1 1014 := ⟨by decide +kernel, rfl⟩
theorem eL_1014 : Dc code 1014 (.aload_n 0) 1 1015 := ⟨by decide +kernel, rfl⟩
theorem eL_1015 : Dc code 1015 (.iload_n 3) 1 1016 := ⟨by decide +kernel, rfl⟩
theorem eL_1016 : Dc code 1016 (.iconst 3) 1 1017 := ⟨by decide +kernel, rfl⟩
theorem eL_1017 : Dc code 1017 (.iadd) 1 1018 := ⟨by decide +kernel, rfl⟩
theorem eL_1018 : Dc code 1018 (.iaload) 1 1019 := ⟨by decide +kernel, rfl⟩
theorem eL_1019 : Dc code 1019 (.invokevirtual 130) 3 1022 := ⟨by decide +kernel, rfl⟩
theorem eL_1022 : Dc code 1022 (.aload_n 2) 1 1023 := ⟨by decide +kernel, rfl⟩
theorem eL_1023 : Dc code 1023 (.aload_n 0) 1 1024 := ⟨by decide +kernel, rfl⟩
theorem eL_1024 : Dc code 1024 (.iload_n 3) 1 1025 := ⟨by decide +kernel, rfl⟩
theorem eL_1025 : Dc code 1025 (.iconst 1) 1 1026 := ⟨by decide +kernel, rfl⟩
theorem eL_1026 : Dc code 1026 (.iadd) 1 1027 := ⟨by decide +kernel, rfl⟩
theorem eL_1027 : Dc code 1027 (.iaload) 1 1028 := ⟨by decide +kernel, rfl⟩
theorem eL_1028 : Dc code 1028 (.aload_n 0) 1 1029 := ⟨by decide +kernel, rfl⟩
theorem eL_1029 : Dc code 1029 (.iload_n 3) 1 1030 := ⟨by decide +kernel, rfl⟩
theorem eL_1030 : Dc code 1030 (.iconst 2) 1 1031 := ⟨by decide +kernel, rfl⟩
theorem eL_1031 : Dc code 1031 (.iadd) 1 1032 := ⟨by decide +kernel, rfl⟩
theorem eL_1032 : Dc code 1032 (.iaload) 1 1033 := ⟨by decide +kernel, rfl⟩
theorem eL_1033 : Dc code 1033 (.aload_n 0) 1 1034 := ⟨by decide +kernel, rfl⟩
theorem eL_1034 : Dc code 1034 (.iload_n 3) 1 1035 := ⟨by decide +kernel, rfl⟩
theorem eL_1035 : Dc code 1035 (.iconst 3) 1 1036 := ⟨by decide +kernel, rfl⟩
theorem eL_1036 : Dc code 1036 (.iadd) 1 1037 := ⟨by decide +kernel, rfl⟩
theorem eL_1037 : Dc code 1037 (.iaload) 1 1038 := ⟨by decide +kernel, rfl⟩
theorem eL_1038 : Dc code 1038 (.invokevirtual 133) 3 1041 := ⟨by decide +kernel, rfl⟩
theorem eL_1041 : Dc code 1041 (.if_icmp .eq 74) 3 1044 := ⟨by decide +kernel, rfl⟩
theorem eL_1044 : Dc code 1044 (.iconst 0) 1 1045 := ⟨by decide +kernel, rfl⟩
theorem eL_1045 : Dc code 1045 (.ireturn) 1 1046 := ⟨by decide +kernel, rfl⟩
theorem eL_1046 : Dc code 1046 (.aload_n 1) 1 1047 := ⟨by decide +kernel, rfl⟩
theorem eL_1047 : Dc code 1047 (.aload_n 0) 1 1048 := ⟨by decide +kernel, rfl⟩
theorem eL_1048 : Dc code 1048 (.iload_n 3) 1 1049 := ⟨by decide +kernel, rfl⟩
theorem eL_1049 : Dc code 1049 (.iconst 1) 1 1050 := ⟨by decide +kernel, rfl⟩
theorem eL_1050 : Dc code 1050 (.iadd) 1 1051 := ⟨by decide +kernel, rfl⟩
theorem eL_1051 : Dc code 1051 (.iaload) 1 1052 := ⟨by decide +kernel, rfl⟩
theorem eL_1052 : Dc code 1052 (.invokevirtual 134) 3 1055 := ⟨by decide +kernel, rfl⟩
theorem eL_1055 : Dc code 1055 (.aload_n 2) 1 1056 := ⟨by decide +kernel, rfl⟩
theorem eL_1056 : Dc code 1056 (.aload_n 0) 1 1057 := ⟨by decide +kernel, rfl⟩
theorem eL_1057 : Dc code 1057 (.iload_n 3) 1 1058 := ⟨by decide +kernel, rfl⟩
theorem eL_1058 : Dc code 1058 (.iconst 1) 1 1059 := ⟨by decide +kernel, rfl⟩
theorem eL_1059 : Dc code 1059 (.iadd) 1 1060 := ⟨by decide +kernel, rfl⟩
theorem eL_1060 : Dc code 1060 (.iaload) 1 1061 := ⟨by decide +kernel, rfl⟩
theorem eL_1061 : Dc code 1061 (.invokevirtual 137) 3 1064 := ⟨by decide +kernel, rfl⟩
theorem eL_1064 : Dc code 1064 (.if_icmp .eq 51) 3 1067 := ⟨by decide +kernel, rfl⟩
theorem eL_1067 : Dc code 1067 (.iconst 0) 1 1068 := ⟨by decide +kernel, rfl⟩
theorem eL_1068 : Dc code 1068 (.ireturn) 1 1069 := ⟨by decide +kernel, rfl⟩
theorem eL_1069 : Dc code 1069 (.aload_n 1) 1 1070 := ⟨by decide +kernel, rfl⟩
theorem eL_1070 : Dc code 1070 (.aload_n 0) 1 1071 := ⟨by decide +kernel, rfl⟩
theorem eL_1071 : Dc code 1071 (.iload_n 3) 1 1072 := ⟨by decide +kernel, rfl⟩
theorem eL_1072 : Dc code 1072 (.iconst 1) 1 1073 := ⟨by decide +kernel, rfl⟩
theorem eL_1073 : Dc code 1073 (.iadd) 1 1074 := ⟨by decide +kernel, rfl⟩
theorem eL_1074 : Dc code 1074 (.iaload) 1 1075 := ⟨by decide +kernel, rfl⟩
theorem eL_1075 : Dc code 1075 (.invokevirtual 138) 3 1078 := ⟨by decide +kernel, rfl⟩
theorem eL_1078 : Dc code 1078 (.aload_n 2) 1 1079 := ⟨by decide +kernel, rfl⟩
theorem eL_1079 : Dc code 1079 (.aload_n 0) 1 1080 := ⟨by decide +kernel, rfl⟩
theorem eL_1080 : Dc code 1080 (.iload_n 3) 1 1081 := ⟨by decide +kernel, rfl⟩
theorem eL_1081 : Dc code 1081 (.iconst 1) 1 1082 := ⟨by decide +kernel, rfl⟩
theorem eL_1082 : Dc code 1082 (.iadd) 1 1083 := ⟨by decide +kernel, rfl⟩
theorem eL_1083 : Dc code 1083 (.iaload) 1 1084 := ⟨by decide +kernel, rfl⟩
theorem eL_1084 : Dc code 1084 (.invokevirtual 141) 3 1087 := ⟨by decide +kernel, rfl⟩
theorem eL_1087 : Dc code 1087 (.if_icmp .eq 28) 3 1090 := ⟨by decide +kernel, rfl⟩
theorem eL_1090 : Dc code 1090 (.iconst 0) 1 1091 := ⟨by decide +kernel, rfl⟩
theorem eL_1091 : Dc code 1091 (.ireturn) 1 1092 := ⟨by decide +kernel, rfl⟩
theorem eL_1092 : Dc code 1092 (.aload_n 1) 1 1093 := ⟨by decide +kernel, rfl⟩
theorem eL_1093 : Dc code 1093 (.aload_n 0) 1 1094 := ⟨by decide +kernel, rfl⟩
theorem eL_1094 : Dc code 1094 (.iload_n 3) 1 1095 := ⟨by decide +kernel, rfl⟩
theorem eL_1095 : Dc code 1095 (.iconst 1) 1 1096 := ⟨by decide +kernel, rfl⟩
theorem eL_1096 : Dc code 1096 (.iadd) 1 1097 := ⟨by decide +kernel, rfl⟩
theorem eL_1097 : Dc code 1097 (.iaload) 1 1098 := ⟨by decide +kernel, rfl⟩
theorem eL_1098 : Dc code 1098 (.invokevirtual 142) 3 1101 := ⟨by decide +kernel, rfl⟩
theorem eL_1101 : Dc code 1101 (.aload_n 2) 1 1102 := ⟨by decide +kernel, rfl⟩
theorem eL_1102 : Dc code 1102 (.aload_n 0) 1 1103 := ⟨by decide +kernel, rfl⟩
theorem eL_1103 : Dc code 1103 (.iload_n 3) 1 1104 := ⟨by decide +kernel, rfl⟩
theorem eL_1104 : Dc code 1104 (.iconst 1) 1 1105 := ⟨by decide +kernel, rfl⟩
theorem eL_1105 : Dc code 1105 (.iadd) 1 1106 := ⟨by decide +kernel, rfl⟩
theorem eL_1106 : Dc code 1106 (.iaload) 1 1107 := ⟨by decide +kernel, rfl⟩
theorem eL_1107 : Dc code 1107 (.invokevirtual 145) 3 1110 := ⟨by decide +kernel, rfl⟩
theorem eL_1110 : Dc code 1110 (.if_icmp .eq 5) 3 1113 := ⟨by decide +kernel, rfl⟩
theorem eL_1113 : Dc code 1113 (.iconst 0) 1 1114 := ⟨by decide +kernel, rfl⟩
theorem eL_1114 : Dc code 1114 (.ireturn) 1 1115 := ⟨by decide +kernel, rfl⟩
theorem eL_1115 : Dc code 1115 (.iinc 3 7) 3 1118 := ⟨by decide +kernel, rfl⟩
theorem eL_1118 : Dc code 1118 (.goto (-1100)) 3 1121 := ⟨by decide +kernel, rfl⟩
theorem eL_1121 : Dc code 1121 (.iconst 1) 1 1122 := ⟨by decide +kernel, rfl⟩
theorem eL_1122 : Dc code 1122 (.ireturn) 1 1123 := ⟨by decide +kernel, rfl⟩
theorem lw_in {L i : Nat} (j : Nat) {x : Int32} (hi : i + 7 ≤ L) (hL : L ≤ 3584) (hj : j < 7) (hx : x = nI j) : vp_in (nI i + x) L := by
  rw [hx, nI_add]
  exact vp_in_nI (by omega) (by omega)
theorem lg_cmp_self (r : Int64) : lg_cmp r r = 0 := by
  unfold lg_cmp
  rw [if_neg (by simp), if_pos rfl]
def OK_say (Inv : SS → SS → tg_I → tg_I → Prop) : Prop := ∀ (c m : SS) (i0 i1 : tg_I) (a1 : Int32), Inv c m i0 i1 → ∃ (r : Int32) (c2 : SS) (m2 : SS), fX6_say c a1 = some (r, c2) ∧ fX7_say m a1 = some (r, m2) ∧ Inv c2 m2 i0 i1
set_option maxRecDepth 20000 in
theorem law_say {l : Launch} {G : tg_G} {b L i : Nat} {nm : String} {xs : Nat → Int32} (hi : i + 7 ≤ L) (hL : L ≤ 3584) {Inv : SS → SS → tg_I → tg_I → Prop} (ok : OK_say Inv) (A B : Nat → Nat) (c m : SS) (i0 i1 : tg_I) (hI : Inv c m i0 i1) (kk : ∀ c2 m2, Inv c2 m2 i0 i1 → V l G ZL (EL b L xs) room_1 "TramGodLaw" nm code 4 ret 1115 [(0, .ref b), (1, .ref (A 0)), (2, .ref (B 0)), (3, .int (nI i))] [] (wL G A B c2 m2 i0 i1) (49 + ic i0 + ic i1) (375659 + isl i0 + isl i1)) : V l G ZL (EL b L xs) room_1 "TramGodLaw" nm code 4 ret 172 [(0, .ref b), (1, .ref (A 0)), (2, .ref (B 0)), (3, .int (nI i))] [] (wL G A B c m i0 i1) (49 + ic i0 + ic i1) (375659 + isl i0 + isl i1) := by
  obtain ⟨r, c2, m2, e6, e7, hI2⟩ := ok c m i0 i1 (xs (nI i + (1 : Int32)).toNatClampNeg) hI
  refine V_aload_n eL_172 1 rfl ?_
  refine V_aload_n eL_173 0 rfl ?_
  refine V_iload_n eL_174 3 rfl ?_
  refine V_iconst (v := (1 : Int32)) eL_175 rfl ?_
  refine V_iadd eL_176 ?_
  refine V_sld eL_177 (lw_in 1 hi hL (by decide) rfl) ?_
  refine V_callAi (rest := []) (wr := imC G A i0 i1 ++ wM G B m) (w' := wL G A B c2 m i0 i1) eL_178 (ctX6_say l G A c (xs (nI i + (1 : Int32)).toNatClampNeg) e6) tc_238 tw_235 tw_1 tw_236 tw_237 0 rfl rfl hdX6_say rfl ⟨Nat.le_of_ble_eq_true rfl, Nat.le_of_ble_eq_true rfl⟩ ⟨ic_le2 i0 i1, isl_le2 i0 i1⟩ rfl (Nat.le_of_ble_eq_true rfl) (List.append_assoc _ _ _) (List.append_assoc _ _ _).symm ?_
  refine V_aload_n eL_181 2 rfl ?_
  refine V_aload_n eL_182 0 rfl ?_
  refine V_iload_n eL_183 3 rfl ?_
  refine V_iconst (v := (1 : Int32)) eL_184 rfl ?_
  refine V_iadd eL_185 ?_
  refine V_sld eL_186 (lw_in 1 hi hL (by decide) rfl) ?_
  refine V_callBi (rest := [.int r]) (wl := wC G A c2 ++ imC G A i0 i1) (w1 := wM G B m2) eL_187 (ctX7_say l G B m (xs (nI i + (1 : Int32)).toNatClampNeg) e7) tc_743 tw_740 tw_8 tw_741 tw_742 0 rfl rfl hdX7_say rfl ⟨Nat.le_of_ble_eq_true rfl, Nat.le_of_ble_eq_true rfl⟩ ⟨ic_le2 i0 i1, isl_le2 i0 i1⟩ rfl (Nat.le_of_ble_eq_true rfl) ?_
  refine V_icmp_eq (tgt := 1115) eL_190 rfl (fun _ => ?_) (fun hb => absurd rfl hb)
  exact kk c2 m2 hI2
def OK_wipe (Inv : SS → SS → tg_I → tg_I → Prop) : Prop := ∀ (c m : SS) (i0 i1 : tg_I) , Inv c m i0 i1 → ∃ (r : Int32) (c2 : SS) (m2 : SS), fX6_wipe c = (r, c2) ∧ fX7_wipe m = (r, m2) ∧ Inv c2 m2 i0 i1
set_option maxRecDepth 20000 in
theorem law_wipe {l : Launch} {G : tg_G} {b L i : Nat} {nm : String} {xs : Nat → Int32} (hi : i + 7 ≤ L) (hL : L ≤ 3584) {Inv : SS → SS → tg_I → tg_I → Prop} (ok : OK_wipe Inv) (A B : Nat → Nat) (c m : SS) (i0 i1 : tg_I) (hI : Inv c m i0 i1) (kk : ∀ c2 m2, Inv c2 m2 i0 i1 → V l G ZL (EL b L xs) room_1 "TramGodLaw" nm code 4 ret 1115 [(0, .ref b), (1, .ref (A 0)), (2, .ref (B 0)), (3, .int (nI i))] [] (wL G A B c2 m2 i0 i1) (49 + ic i0 + ic i1) (375659 + isl i0 + isl i1)) : V l G ZL (EL b L xs) room_1 "TramGodLaw" nm code 4 ret 195 [(0, .ref b), (1, .ref (A 0)), (2, .ref (B 0)), (3, .int (nI i))] [] (wL G A B c m i0 i1) (49 + ic i0 + ic i1) (375659 + isl i0 + isl i1) := by
  obtain ⟨r, c2, m2, e6, e7, hI2⟩ := ok c m i0 i1 hI
  refine V_aload_n eL_195 1 rfl ?_
  refine V_callAi (rest := []) (wr := imC G A i0 i1 ++ wM G B m) (w' := wL G A B c2 m i0 i1) eL_196 (ctX6_wipe l G A c  e6) tc_249 tw_246 tw_1 tw_247 tw_248 0 rfl rfl hdX6_wipe rfl ⟨Nat.le_of_ble_eq_true rfl, Nat.le_of_ble_eq_true rfl⟩ ⟨ic_le2 i0 i1, isl_le2 i0 i1⟩ rfl (Nat.le_of_ble_eq_true rfl) (List.append_assoc _ _ _) (List.append_assoc _ _ _).symm ?_
  refine V_aload_n eL_199 2 rfl ?_
  refine V_callBi (rest := [.int r]) (wl := wC G A c2 ++ imC G A i0 i1) (w1 := wM G B m2) eL_200 (ctX7_wipe l G B m  e7) tc_752 tw_749 tw_8 tw_750 tw_751 0 rfl rfl hdX7_wipe rfl ⟨Nat.le_of_ble_eq_true rfl, Nat.le_of_ble_eq_true rfl⟩ ⟨ic_le2 i0 i1, isl_le2 i0 i1⟩ rfl (Nat.le_of_ble_eq_true rfl) ?_
  refine V_icmp_eq (tgt := 1115) eL_203 rfl (fun _ => ?_) (fun hb => absurd rfl hb)
  exact kk c2 m2 hI2
def OK_fault (Inv : SS → SS → tg_I → tg_I → Prop) : Prop := ∀ (c m : SS) (i0 i1 : tg_I) (a1 : Int32), Inv c m i0 i1 → ∃ (r : Int32), fX6_fault c a1 = some r ∧ fX7_fault m a1 = some r ∧ Inv c m i0 i1
set_option maxRecDepth 20000 in
theorem law_fault {l : Launch} {G : tg_G} {b L i : Nat} {nm : String} {xs : Nat → Int32} (hi : i + 7 ≤ L) (hL : L ≤ 3584) {Inv : SS → SS → tg_I → tg_I → Prop} (ok : OK_fault Inv) (A B : Nat → Nat) (c m : SS) (i0 i1 : tg_I) (hI : Inv c m i0 i1) (kk : ∀ c2 m2, Inv c2 m2 i0 i1 → V l G ZL (EL b L xs) room_1 "TramGodLaw" nm code 4 ret 1115 [(0, .ref b), (1, .ref (A 0)), (2, .ref (B 0)), (3, .int (nI i))] [] (wL G A B c2 m2 i0 i1) (49 + ic i0 + ic i1) (375659 + isl i0 + isl i1)) : V l G ZL (EL b L xs) room_1 "TramGodLaw" nm code 4 ret 208 [(0, .ref b), (1, .ref (A 0)), (2, .ref (B 0)), (3, .int (nI i))] [] (wL G A B c m i0 i1) (49 + ic i0 + ic i1) (375659 + isl i0 + isl i1) := by
  obtain ⟨r, e6, e7, hI2⟩ := ok c m i0 i1 (xs (nI i + (1 : Int32)).toNatClampNeg) hI
  refine V_aload_n eL_208 1 rfl ?_
  refine V_aload_n eL_209 0 rfl ?_
  refine V_iload_n eL_210 3 rfl ?_
  refine V_iconst (v := (1 : Int32)) eL_211 rfl ?_
  refine V_iadd eL_212 ?_
  refine V_sld eL_213 (lw_in 1 hi hL (by decide) rfl) ?_
  refine V_callAi (rest := []) (wr := imC G A i0 i1 ++ wM G B m) (w' := wL G A B c m i0 i1) eL_214 (ctX6_fault l G A c (xs (nI i + (1 : Int32)).toNatClampNeg) e6) tc_253 tw_250 tw_1 tw_251 tw_252 0 rfl rfl hdX6_fault rfl ⟨Nat.le_of_ble_eq_true rfl, Nat.le_of_ble_eq_true rfl⟩ ⟨ic_le2 i0 i1, isl_le2 i0 i1⟩ rfl (Nat.le_of_ble_eq_true rfl) (List.append_assoc _ _ _) (List.append_assoc _ _ _).symm ?_
  refine V_aload_n eL_217 2 rfl ?_
  refine V_aload_n eL_218 0 rfl ?_
  refine V_iload_n eL_219 3 rfl ?_
  refine V_iconst (v := (1 : Int32)) eL_220 rfl ?_
  refine V_iadd eL_221 ?_
  refine V_sld eL_222 (lw_in 1 hi hL (by decide) rfl) ?_
  refine V_callBi (rest := [.int r]) (wl := wC G A c ++ imC G A i0 i1) (w1 := wM G B m) eL_223 (ctX7_fault l G B m (xs (nI i + (1 : Int32)).toNatClampNeg) e7) tc_756 tw_753 tw_8 tw_754 tw_755 0 rfl rfl hdX7_fault rfl ⟨Nat.le_of_ble_eq_true rfl, Nat.le_of_ble_eq_true rfl⟩ ⟨ic_le2 i0 i1, isl_le2 i0 i1⟩ rfl (Nat.le_of_ble_eq_true rfl) ?_
  refine V_icmp_eq (tgt := 1115) eL_226 rfl (fun _ => ?_) (fun hb => absurd rfl hb)
  exact kk c m hI2
def OK_line (Inv : SS → SS → tg_I → tg_I → Prop) : Prop := ∀ (c m : SS) (i0 i1 : tg_I) , Inv c m i0 i1 → ∃ (r : Int32) (c2 : SS) (m2 : SS), fX6_line c = some (r, c2) ∧ fX7_line m = some (r, m2) ∧ Inv c2 m2 i0 i1
set_option maxRecDepth 20000 in
theorem law_line {l : Launch} {G : tg_G} {b L i : Nat} {nm : String} {xs : Nat → Int32} (hi : i + 7 ≤ L) (hL : L ≤ 3584) {Inv : SS → SS → tg_I → tg_I → Prop} (ok : OK_line Inv) (A B : Nat → Nat) (c m : SS) (i0 i1 : tg_I) (hI : Inv c m i0 i1) (kk : ∀ c2 m2, Inv c2 m2 i0 i1 → V l G ZL (EL b L xs) room_1 "TramGodLaw" nm code 4 ret 1115 [(0, .ref b), (1, .ref (A 0)), (2, .ref (B 0)), (3, .int (nI i))] [] (wL G A B c2 m2 i0 i1) (49 + ic i0 + ic i1) (375659 + isl i0 + isl i1)) : V l G ZL (EL b L xs) room_1 "TramGodLaw" nm code 4 ret 231 [(0, .ref b), (1, .ref (A 0)), (2, .ref (B 0)), (3, .int (nI i))] [] (wL G A B c m i0 i1) (49 + ic i0 + ic i1) (375659 + isl i0 + isl i1) := by
  obtain ⟨r, c2, m2, e6, e7, hI2⟩ := ok c m i0 i1 hI
  refine V_aload_n eL_231 1 rfl ?_
  refine V_callAi (rest := []) (wr := imC G A i0 i1 ++ wM G B m) (w' := wL G A B c2 m i0 i1) eL_232 (ctX6_line l G A c  e6) tc_266 tw_263 tw_1 tw_264 tw_265 0 rfl rfl hdX6_line rfl ⟨Nat.le_of_ble_eq_true rfl, Nat.le_of_ble_eq_true rfl⟩ ⟨ic_le2 i0 i1, isl_le2 i0 i1⟩ rfl (Nat.le_of_ble_eq_true rfl) (List.append_assoc _ _ _) (List.append_assoc _ _ _).symm ?_
  refine V_aload_n eL_235 2 rfl ?_
  refine V_callBi (rest := [.int r]) (wl := wC G A c2 ++ imC G A i0 i1) (w1 := wM G B m2) eL_236 (ctX7_line l G B m  e7) tc_766 tw_763 tw_8 tw_764 tw_765 0 rfl rfl hdX7_line rfl ⟨Nat.le_of_ble_eq_true rfl, Nat.le_of_ble_eq_true rfl⟩ ⟨ic_le2 i0 i1, isl_le2 i0 i1⟩ rfl (Nat.le_of_ble_eq_true rfl) ?_
  refine V_icmp_eq (tgt := 1115) eL_239 rfl (fun _ => ?_) (fun hb => absurd rfl hb)
  exact kk c2 m2 hI2
def OK_close (Inv : SS → SS → tg_I → tg_I → Prop) : Prop := ∀ (c m : SS) (i0 i1 : tg_I) (a1 : Int32) (a2 : Int32), Inv c m i0 i1 → (a2 = 0 ∨ a2 = 1) → ∃ (r : Int32) (c2 : SS) (m2 : SS), fX6_close c a1 a2 = (r, c2) ∧ fX7_close m a1 a2 = (r, m2) ∧ Inv c2 m2 i0 i1
set_option maxRecDepth 20000 in
theorem law_close {l : Launch} {G : tg_G} {b L i : Nat} {nm : String} {xs : Nat → Int32} (hi : i + 7 ≤ L) (hL : L ≤ 3584) {Inv : SS → SS → tg_I → tg_I → Prop} (ok : OK_close Inv) (A B : Nat → Nat) (c m : SS) (i0 i1 : tg_I) (hI : Inv c m i0 i1) (kk : ∀ c2 m2, Inv c2 m2 i0 i1 → V l G ZL (EL b L xs) room_1 "TramGodLaw" nm code 4 ret 1115 [(0, .ref b), (1, .ref (A 0)), (2, .ref (B 0)), (3, .int (nI i))] [] (wL G A B c2 m2 i0 i1) (49 + ic i0 + ic i1) (375659 + isl i0 + isl i1)) : V l G ZL (EL b L xs) room_1 "TramGodLaw" nm code 4 ret 244 [(0, .ref b), (1, .ref (A 0)), (2, .ref (B 0)), (3, .int (nI i))] [] (wL G A B c m i0 i1) (49 + ic i0 + ic i1) (375659 + isl i0 + isl i1) := by
  by_cases hz : (xs (nI i + (2 : Int32)).toNatClampNeg) = 0
  · obtain ⟨r, c2, m2, e6, e7, hI2⟩ := ok c m i0 i1 (xs (nI i + (1 : Int32)).toNatClampNeg) 0 hI (Or.inl rfl)
    refine V_aload_n eL_244 1 rfl ?_
    refine V_aload_n eL_245 0 rfl ?_
    refine V_iload_n eL_246 3 rfl ?_
    refine V_iconst (v := (1 : Int32)) eL_247 rfl ?_
    refine V_iadd eL_248 ?_
    refine V_sld eL_249 (lw_in 1 hi hL (by decide) rfl) ?_
    refine V_aload_n eL_250 0 rfl ?_
    refine V_iload_n eL_251 3 rfl ?_
    refine V_iconst (v := (2 : Int32)) eL_252 rfl ?_
    refine V_iadd eL_253 ?_
    refine V_sld eL_254 (lw_in 2 hi hL (by decide) rfl) ?_
    refine V_if_eq (tgt := 262) eL_255 rfl (fun _ => ?_) (fun hb => absurd hz hb)
    refine V_iconst (v := (0 : Int32)) eL_262 rfl ?_
    refine V_callAi (rest := []) (wr := imC G A i0 i1 ++ wM G B m) (w' := wL G A B c2 m i0 i1) eL_263 (ctX6_close l G A c (xs (nI i + (1 : Int32)).toNatClampNeg) (0 : Int32) e6) tc_285 tw_282 tw_1 tw_283 tw_284 0 rfl rfl hdX6_close rfl ⟨Nat.le_of_ble_eq_true rfl, Nat.le_of_ble_eq_true rfl⟩ ⟨ic_le2 i0 i1, isl_le2 i0 i1⟩ rfl (Nat.le_of_ble_eq_true rfl) (List.append_assoc _ _ _) (List.append_assoc _ _ _).symm ?_
    refine V_aload_n eL_266 2 rfl ?_
    refine V_aload_n eL_267 0 rfl ?_
    refine V_iload_n eL_268 3 rfl ?_
    refine V_iconst (v := (1 : Int32)) eL_269 rfl ?_
    refine V_iadd eL_270 ?_
    refine V_sld eL_271 (lw_in 1 hi hL (by decide) rfl) ?_
    refine V_aload_n eL_272 0 rfl ?_
    refine V_iload_n eL_273 3 rfl ?_
    refine V_iconst (v := (2 : Int32)) eL_274 rfl ?_
    refine V_iadd eL_275 ?_
    refine V_sld eL_276 (lw_in 2 hi hL (by decide) rfl) ?_
    refine V_if_eq (tgt := 284) eL_277 rfl (fun _ => ?_) (fun hb => absurd hz hb)
    refine V_iconst (v := (0 : Int32)) eL_284 rfl ?_
    refine V_callBi (rest := [.int r]) (wl := wC G A c2 ++ imC G A i0 i1) (w1 := wM G B m2) eL_285 (ctX7_close l G B m (xs (nI i + (1 : Int32)).toNatClampNeg) (0 : Int32) e7) tc_770 tw_767 tw_8 tw_768 tw_769 0 rfl rfl hdX7_close rfl ⟨Nat.le_of_ble_eq_true rfl, Nat.le_of_ble_eq_true rfl⟩ ⟨ic_le2 i0 i1, isl_le2 i0 i1⟩ rfl (Nat.le_of_ble_eq_true rfl) ?_
    refine V_icmp_eq (tgt := 1115) eL_288 rfl (fun _ => ?_) (fun hb => absurd rfl hb)
    exact kk c2 m2 hI2
  · obtain ⟨r, c2, m2, e6, e7, hI2⟩ := ok c m i0 i1 (xs (nI i + (1 : Int32)).toNatClampNeg) 1 hI (Or.inr rfl)
    refine V_aload_n eL_244 1 rfl ?_
    refine V_aload_n eL_245 0 rfl ?_
    refine V_iload_n eL_246 3 rfl ?_
    refine V_iconst (v := (1 : Int32)) eL_247 rfl ?_
    refine V_iadd eL_248 ?_
    refine V_sld eL_249 (lw_in 1 hi hL (by decide) rfl) ?_
    refine V_aload_n eL_250 0 rfl ?_
    refine V_iload_n eL_251 3 rfl ?_
    refine V_iconst (v := (2 : Int32)) eL_252 rfl ?_
    refine V_iadd eL_253 ?_
    refine V_sld eL_254 (lw_in 2 hi hL (by decide) rfl) ?_
    refine V_if_eq (tgt := 262) eL_255 rfl (fun hb => absurd hb hz) (fun _ => ?_)
    refine V_iconst (v := (1 : Int32)) eL_258 rfl ?_
    refine V_goto (tgt := 263) eL_259 rfl ?_
    refine V_callAi (rest := []) (wr := imC G A i0 i1 ++ wM G B m) (w' := wL G A B c2 m i0 i1) eL_263 (ctX6_close l G A c (xs (nI i + (1 : Int32)).toNatClampNeg) (1 : Int32) e6) tc_285 tw_282 tw_1 tw_283 tw_284 0 rfl rfl hdX6_close rfl ⟨Nat.le_of_ble_eq_true rfl, Nat.le_of_ble_eq_true rfl⟩ ⟨ic_le2 i0 i1, isl_le2 i0 i1⟩ rfl (Nat.le_of_ble_eq_true rfl) (List.append_assoc _ _ _) (List.append_assoc _ _ _).symm ?_
    refine V_aload_n eL_266 2 rfl ?_
    refine V_aload_n eL_267 0 rfl ?_
    refine V_iload_n eL_268 3 rfl ?_
    refine V_iconst (v := (1 : Int32)) eL_269 rfl ?_
    refine V_iadd eL_270 ?_
    refine V_sld eL_271 (lw_in 1 hi hL (by decide) rfl) ?_
    refine V_aload_n eL_272 0 rfl ?_
    refine V_iload_n eL_273 3 rfl ?_
    refine V_iconst (v := (2 : Int32)) eL_274 rfl ?_
    refine V_iadd eL_275 ?_
    refine V_sld eL_276 (lw_in 2 hi hL (by decide) rfl) ?_
    refine V_if_eq (tgt := 284) eL_277 rfl (fun hb => absurd hb hz) (fun _ => ?_)
    refine V_iconst (v := (1 : Int32)) eL_280 rfl ?_
    refine V_goto (tgt := 285) eL_281 rfl ?_
    refine V_callBi (rest := [.int r]) (wl := wC G A c2 ++ imC G A i0 i1) (w1 := wM G B m2) eL_285 (ctX7_close l G B m (xs (nI i + (1 : Int32)).toNatClampNeg) (1 : Int32) e7) tc_770 tw_767 tw_8 tw_768 tw_769 0 rfl rfl hdX7_close rfl ⟨Nat.le_of_ble_eq_true rfl, Nat.le_of_ble_eq_true rfl⟩ ⟨ic_le2 i0 i1, isl_le2 i0 i1⟩ rfl (Nat.le_of_ble_eq_true rfl) ?_
    refine V_icmp_eq (tgt := 1115) eL_288 rfl (fun _ => ?_) (fun hb => absurd rfl hb)
    exact kk c2 m2 hI2
def OK_person (Inv : SS → SS → tg_I → tg_I → Prop) : Prop := ∀ (c m : SS) (i0 i1 : tg_I) (a1 : Int32) (a2 : Int32) (a3 : Int32) (a4 : Int32) (a5 : Int32) (a6 : Int32), Inv c m i0 i1 → ∃ (r : Int32) (c2 : SS) (m2 : SS), fX6_person c a1 a2 a3 a4 a5 a6 = some (r, c2) ∧ fX7_person m a1 a2 a3 a4 a5 a6 = some (r, m2) ∧ Inv c2 m2 i0 i1
set_option maxRecDepth 20000 in
theorem law_person {l : Launch} {G : tg_G} {b L i : Nat} {nm : String} {xs : Nat → Int32} (hi : i + 7 ≤ L) (hL : L ≤ 3584) {Inv : SS → SS → tg_I → tg_I → Prop} (ok : OK_person Inv) (A B : Nat → Nat) (c m : SS) (i0 i1 : tg_I) (hI : Inv c m i0 i1) (kk : ∀ c2 m2, Inv c2 m2 i0 i1 → V l G ZL (EL b L xs) room_1 "TramGodLaw" nm code 4 ret 1115 [(0, .ref b), (1, .ref (A 0)), (2, .ref (B 0)), (3, .int (nI i))] [] (wL G A B c2 m2 i0 i1) (49 + ic i0 + ic i1) (375659 + isl i0 + isl i1)) : V l G ZL (EL b L xs) room_1 "TramGodLaw" nm code 4 ret 293 [(0, .ref b), (1, .ref (A 0)), (2, .ref (B 0)), (3, .int (nI i))] [] (wL G A B c m i0 i1) (49 + ic i0 + ic i1) (375659 + isl i0 + isl i1) := by
  obtain ⟨r, c2, m2, e6, e7, hI2⟩ := ok c m i0 i1 (xs (nI i + (1 : Int32)).toNatClampNeg) (xs (nI i + (2 : Int32)).toNatClampNeg) (xs (nI i + (3 : Int32)).toNatClampNeg) (xs (nI i + (4 : Int32)).toNatClampNeg) (xs (nI i + (5 : Int32)).toNatClampNeg) (xs (nI i + (6 : Int32)).toNatClampNeg) hI
  refine V_aload_n eL_293 1 rfl ?_
  refine V_aload_n eL_294 0 rfl ?_
  refine V_iload_n eL_295 3 rfl ?_
  refine V_iconst (v := (1 : Int32)) eL_296 rfl ?_
  refine V_iadd eL_297 ?_
  refine V_sld eL_298 (lw_in 1 hi hL (by decide) rfl) ?_
  refine V_aload_n eL_299 0 rfl ?_
  refine V_iload_n eL_300 3 rfl ?_
  refine V_iconst (v := (2 : Int32)) eL_301 rfl ?_
  refine V_iadd eL_302 ?_
  refine V_sld eL_303 (lw_in 2 hi hL (by decide) rfl) ?_
  refine V_aload_n eL_304 0 rfl ?_
  refine V_iload_n eL_305 3 rfl ?_
  refine V_iconst (v := (3 : Int32)) eL_306 rfl ?_
  refine V_iadd eL_307 ?_
  refine V_sld eL_308 (lw_in 3 hi hL (by decide) rfl) ?_
  refine V_aload_n eL_309 0 rfl ?_
  refine V_iload_n eL_310 3 rfl ?_
  refine V_iconst (v := (4 : Int32)) eL_311 rfl ?_
  refine V_iadd eL_312 ?_
  refine V_sld eL_313 (lw_in 4 hi hL (by decide) rfl) ?_
  refine V_aload_n eL_314 0 rfl ?_
  refine V_iload_n eL_315 3 rfl ?_
  refine V_iconst (v := (5 : Int32)) eL_316 rfl ?_
  refine V_iadd eL_317 ?_
  refine V_sld eL_318 (lw_in 5 hi hL (by decide) rfl) ?_
  refine V_aload_n eL_319 0 rfl ?_
  refine V_iload_n eL_320 3 rfl ?_
  refine V_bipush (v := (6 : Int32)) eL_321 rfl ?_
  refine V_iadd eL_323 ?_
  refine V_sld eL_324 (lw_in 6 hi hL (by decide) rfl) ?_
  refine V_callAi (rest := []) (wr := imC G A i0 i1 ++ wM G B m) (w' := wL G A B c2 m i0 i1) eL_325 (ctX6_person l G A c (xs (nI i + (1 : Int32)).toNatClampNeg) (xs (nI i + (2 : Int32)).toNatClampNeg) (xs (nI i + (3 : Int32)).toNatClampNeg) (xs (nI i + (4 : Int32)).toNatClampNeg) (xs (nI i + (5 : Int32)).toNatClampNeg) (xs (nI i + (6 : Int32)).toNatClampNeg) e6) tc_294 tw_291 tw_1 tw_292 tw_293 0 rfl rfl hdX6_person rfl ⟨Nat.le_of_ble_eq_true rfl, Nat.le_of_ble_eq_true rfl⟩ ⟨ic_le2 i0 i1, isl_le2 i0 i1⟩ rfl (Nat.le_of_ble_eq_true rfl) (List.append_assoc _ _ _) (List.append_assoc _ _ _).symm ?_
  refine V_aload_n eL_328 2 rfl ?_
  refine V_aload_n eL_329 0 rfl ?_
  refine V_iload_n eL_330 3 rfl ?_
  refine V_iconst (v := (1 : Int32)) eL_331 rfl ?_
  refine V_iadd eL_332 ?_
  refine V_sld eL_333 (lw_in 1 hi hL (by decide) rfl) ?_
  refine V_aload_n eL_334 0 rfl ?_
  refine V_iload_n eL_335 3 rfl ?_
  refine V_iconst (v := (2 : Int32)) eL_336 rfl ?_
  refine V_iadd eL_337 ?_
  refine V_sld eL_338 (lw_in 2 hi hL (by decide) rfl) ?_
  refine V_aload_n eL_339 0 rfl ?_
  refine V_iload_n eL_340 3 rfl ?_
  refine V_iconst (v := (3 : Int32)) eL_341 rfl ?_
  refine V_iadd eL_342 ?_
  refine V_sld eL_343 (lw_in 3 hi hL (by decide) rfl) ?_
  refine V_aload_n eL_344 0 rfl ?_
  refine V_iload_n eL_345 3 rfl ?_
  refine V_iconst (v := (4 : Int32)) eL_346 rfl ?_
  refine V_iadd eL_347 ?_
  refine V_sld eL_348 (lw_in 4 hi hL (by decide) rfl) ?_
  refine V_aload_n eL_349 0 rfl ?_
  refine V_iload_n eL_350 3 rfl ?_
  refine V_iconst (v := (5 : Int32)) eL_351 rfl ?_
  refine V_iadd eL_352 ?_
  refine V_sld eL_353 (lw_in 5 hi hL (by decide) rfl) ?_
  refine V_aload_n eL_354 0 rfl ?_
  refine V_iload_n eL_355 3 rfl ?_
  refine V_bipush (v := (6 : Int32)) eL_356 rfl ?_
  refine V_iadd eL_358 ?_
  refine V_sld eL_359 (lw_in 6 hi hL (by decide) rfl) ?_
  refine V_callBi (rest := [.int r]) (wl := wC G A c2 ++ imC G A i0 i1) (w1 := wM G B m2) eL_360 (ctX7_person l G B m (xs (nI i + (1 : Int32)).toNatClampNeg) (xs (nI i + (2 : Int32)).toNatClampNeg) (xs (nI i + (3 : Int32)).toNatClampNeg) (xs (nI i + (4 : Int32)).toNatClampNeg) (xs (nI i + (5 : Int32)).toNatClampNeg) (xs (nI i + (6 : Int32)).toNatClampNeg) e7) tc_778 tw_775 tw_8 tw_776 tw_777 0 rfl rfl hdX7_person rfl ⟨Nat.le_of_ble_eq_true rfl, Nat.le_of_ble_eq_true rfl⟩ ⟨ic_le2 i0 i1, isl_le2 i0 i1⟩ rfl (Nat.le_of_ble_eq_true rfl) ?_
  refine V_icmp_eq (tgt := 1115) eL_363 rfl (fun _ => ?_) (fun hb => absurd rfl hb)
  exact kk c2 m2 hI2
def OK_leave (Inv : SS → SS → tg_I → tg_I → Prop) : Prop := ∀ (c m : SS) (i0 i1 : tg_I) (a1 : Int32), Inv c m i0 i1 → ∃ (r : Int32) (c2 : SS) (m2 : SS), fX6_leave c a1 = (r, c2) ∧ fX7_leave m a1 = some (r, m2) ∧ Inv c2 m2 i0 i1
set_option maxRecDepth 20000 in
theorem law_leave {l : Launch} {G : tg_G} {b L i : Nat} {nm : String} {xs : Nat → Int32} (hi : i + 7 ≤ L) (hL : L ≤ 3584) {Inv : SS → SS → tg_I → tg_I → Prop} (ok : OK_leave Inv) (A B : Nat → Nat) (c m : SS) (i0 i1 : tg_I) (hI : Inv c m i0 i1) (kk : ∀ c2 m2, Inv c2 m2 i0 i1 → V l G ZL (EL b L xs) room_1 "TramGodLaw" nm code 4 ret 1115 [(0, .ref b), (1, .ref (A 0)), (2, .ref (B 0)), (3, .int (nI i))] [] (wL G A B c2 m2 i0 i1) (49 + ic i0 + ic i1) (375659 + isl i0 + isl i1)) : V l G ZL (EL b L xs) room_1 "TramGodLaw" nm code 4 ret 368 [(0, .ref b), (1, .ref (A 0)), (2, .ref (B 0)), (3, .int (nI i))] [] (wL G A B c m i0 i1) (49 + ic i0 + ic i1) (375659 + isl i0 + isl i1) := by
  obtain ⟨r, c2, m2, e6, e7, hI2⟩ := ok c m i0 i1 (xs (nI i + (1 : Int32)).toNatClampNeg) hI
  refine V_aload_n eL_368 1 rfl ?_
  refine V_aload_n eL_369 0 rfl ?_
  refine V_iload_n eL_370 3 rfl ?_
  refine V_iconst (v := (1 : Int32)) eL_371 rfl ?_
  refine V_iadd eL_372 ?_
  refine V_sld eL_373 (lw_in 1 hi hL (by decide) rfl) ?_
  refine V_callAi (rest := []) (wr := imC G A i0 i1 ++ wM G B m) (w' := wL G A B c2 m i0 i1) eL_374 (ctX6_leave l G A c (xs (nI i + (1 : Int32)).toNatClampNeg) e6) tc_307 tw_304 tw_1 tw_305 tw_306 0 rfl rfl hdX6_leave rfl ⟨Nat.le_of_ble_eq_true rfl, Nat.le_of_ble_eq_true rfl⟩ ⟨ic_le2 i0 i1, isl_le2 i0 i1⟩ rfl (Nat.le_of_ble_eq_true rfl) (List.append_assoc _ _ _) (List.append_assoc _ _ _).symm ?_
  refine V_aload_n eL_377 2 rfl ?_
  refine V_aload_n eL_378 0 rfl ?_
  refine V_iload_n eL_379 3 rfl ?_
  refine V_iconst (v := (1 : Int32)) eL_380 rfl ?_
  refine V_iadd eL_381 ?_
  refine V_sld eL_382 (lw_in 1 hi hL (by decide) rfl) ?_
  refine V_callBi (rest := [.int r]) (wl := wC G A c2 ++ imC G A i0 i1) (w1 := wM G B m2) eL_383 (ctX7_leave l G B m (xs (nI i + (1 : Int32)).toNatClampNeg) e7) tc_792 tw_789 tw_8 tw_790 tw_791 0 rfl rfl hdX7_leave rfl ⟨Nat.le_of_ble_eq_true rfl, Nat.le_of_ble_eq_true rfl⟩ ⟨ic_le2 i0 i1, isl_le2 i0 i1⟩ rfl (Nat.le_of_ble_eq_true rfl) ?_
  refine V_icmp_eq (tgt := 1115) eL_386 rfl (fun _ => ?_) (fun hb => absurd rfl hb)
  exact kk c2 m2 hI2
def OK_nights (Inv : SS → SS → tg_I → tg_I → Prop) : Prop := ∀ (c m : SS) (i0 i1 : tg_I) (a1 : Int32) (a2 : Int32), Inv c m i0 i1 → ∃ (r : Int32) (c2 : SS) (m2 : SS), fX6_nights c a1 a2 = some (r, c2) ∧ fX7_nights m a1 a2 = some (r, m2) ∧ Inv c2 m2 i0 i1
set_option maxRecDepth 20000 in
theorem law_nights {l : Launch} {G : tg_G} {b L i : Nat} {nm : String} {xs : Nat → Int32} (hi : i + 7 ≤ L) (hL : L ≤ 3584) {Inv : SS → SS → tg_I → tg_I → Prop} (ok : OK_nights Inv) (A B : Nat → Nat) (c m : SS) (i0 i1 : tg_I) (hI : Inv c m i0 i1) (kk : ∀ c2 m2, Inv c2 m2 i0 i1 → V l G ZL (EL b L xs) room_1 "TramGodLaw" nm code 4 ret 1115 [(0, .ref b), (1, .ref (A 0)), (2, .ref (B 0)), (3, .int (nI i))] [] (wL G A B c2 m2 i0 i1) (49 + ic i0 + ic i1) (375659 + isl i0 + isl i1)) : V l G ZL (EL b L xs) room_1 "TramGodLaw" nm code 4 ret 391 [(0, .ref b), (1, .ref (A 0)), (2, .ref (B 0)), (3, .int (nI i))] [] (wL G A B c m i0 i1) (49 + ic i0 + ic i1) (375659 + isl i0 + isl i1) := by
  obtain ⟨r, c2, m2, e6, e7, hI2⟩ := ok c m i0 i1 (xs (nI i + (1 : Int32)).toNatClampNeg) (xs (nI i + (2 : Int32)).toNatClampNeg) hI
  refine V_aload_n eL_391 1 rfl ?_
  refine V_aload_n eL_392 0 rfl ?_
  refine V_iload_n eL_393 3 rfl ?_
  refine V_iconst (v := (1 : Int32)) eL_394 rfl ?_
  refine V_iadd eL_395 ?_
  refine V_sld eL_396 (lw_in 1 hi hL (by decide) rfl) ?_
  refine V_aload_n eL_397 0 rfl ?_
  refine V_iload_n eL_398 3 rfl ?_
  refine V_iconst (v := (2 : Int32)) eL_399 rfl ?_
  refine V_iadd eL_400 ?_
  refine V_sld eL_401 (lw_in 2 hi hL (by decide) rfl) ?_
  refine V_callAi (rest := []) (wr := imC G A i0 i1 ++ wM G B m) (w' := wL G A B c2 m i0 i1) eL_402 (ctX6_nights l G A c (xs (nI i + (1 : Int32)).toNatClampNeg) (xs (nI i + (2 : Int32)).toNatClampNeg) e6) tc_315 tw_312 tw_1 tw_313 tw_314 0 rfl rfl hdX6_nights rfl ⟨Nat.le_of_ble_eq_true rfl, Nat.le_of_ble_eq_true rfl⟩ ⟨ic_le2 i0 i1, isl_le2 i0 i1⟩ rfl (Nat.le_of_ble_eq_true rfl) (List.append_assoc _ _ _) (List.append_assoc _ _ _).symm ?_
  refine V_aload_n eL_405 2 rfl ?_
  refine V_aload_n eL_406 0 rfl ?_
  refine V_iload_n eL_407 3 rfl ?_
  refine V_iconst (v := (1 : Int32)) eL_408 rfl ?_
  refine V_iadd eL_409 ?_
  refine V_sld eL_410 (lw_in 1 hi hL (by decide) rfl) ?_
  refine V_aload_n eL_411 0 rfl ?_
  refine V_iload_n eL_412 3 rfl ?_
  refine V_iconst (v := (2 : Int32)) eL_413 rfl ?_
  refine V_iadd eL_414 ?_
  refine V_sld eL_415 (lw_in 2 hi hL (by decide) rfl) ?_
  refine V_callBi (rest := [.int r]) (wl := wC G A c2 ++ imC G A i0 i1) (w1 := wM G B m2) eL_416 (ctX7_nights l G B m (xs (nI i + (1 : Int32)).toNatClampNeg) (xs (nI i + (2 : Int32)).toNatClampNeg) e7) tc_800 tw_797 tw_8 tw_798 tw_799 0 rfl rfl hdX7_nights rfl ⟨Nat.le_of_ble_eq_true rfl, Nat.le_of_ble_eq_true rfl⟩ ⟨ic_le2 i0 i1, isl_le2 i0 i1⟩ rfl (Nat.le_of_ble_eq_true rfl) ?_
  refine V_icmp_eq (tgt := 1115) eL_419 rfl (fun _ => ?_) (fun hb => absurd rfl hb)
  exact kk c2 m2 hI2
def OK_set (Inv : SS → SS → tg_I → tg_I → Prop) : Prop := ∀ (c m : SS) (i0 i1 : tg_I) (a1 : Int32) (a2 : Int32), Inv c m i0 i1 → ∃ (r : Int32) (c2 : SS) (m2 : SS), fX6_set c a1 a2 = (r, c2) ∧ fX7_set m a1 a2 = (r, m2) ∧ Inv c2 m2 i0 i1
set_option maxRecDepth 20000 in
theorem law_set {l : Launch} {G : tg_G} {b L i : Nat} {nm : String} {xs : Nat → Int32} (hi : i + 7 ≤ L) (hL : L ≤ 3584) {Inv : SS → SS → tg_I → tg_I → Prop} (ok : OK_set Inv) (A B : Nat → Nat) (c m : SS) (i0 i1 : tg_I) (hI : Inv c m i0 i1) (kk : ∀ c2 m2, Inv c2 m2 i0 i1 → V l G ZL (EL b L xs) room_1 "TramGodLaw" nm code 4 ret 1115 [(0, .ref b), (1, .ref (A 0)), (2, .ref (B 0)), (3, .int (nI i))] [] (wL G A B c2 m2 i0 i1) (49 + ic i0 + ic i1) (375659 + isl i0 + isl i1)) : V l G ZL (EL b L xs) room_1 "TramGodLaw" nm code 4 ret 424 [(0, .ref b), (1, .ref (A 0)), (2, .ref (B 0)), (3, .int (nI i))] [] (wL G A B c m i0 i1) (49 + ic i0 + ic i1) (375659 + isl i0 + isl i1) := by
  obtain ⟨r, c2, m2, e6, e7, hI2⟩ := ok c m i0 i1 (xs (nI i + (1 : Int32)).toNatClampNeg) (xs (nI i + (2 : Int32)).toNatClampNeg) hI
  refine V_aload_n eL_424 1 rfl ?_
  refine V_aload_n eL_425 0 rfl ?_
  refine V_iload_n eL_426 3 rfl ?_
  refine V_iconst (v := (1 : Int32)) eL_427 rfl ?_
  refine V_iadd eL_428 ?_
  refine V_sld eL_429 (lw_in 1 hi hL (by decide) rfl) ?_
  refine V_aload_n eL_430 0 rfl ?_
  refine V_iload_n eL_431 3 rfl ?_
  refine V_iconst (v := (2 : Int32)) eL_432 rfl ?_
  refine V_iadd eL_433 ?_
  refine V_sld eL_434 (lw_in 2 hi hL (by decide) rfl) ?_
  refine V_callAi (rest := []) (wr := imC G A i0 i1 ++ wM G B m) (w' := wL G A B c2 m i0 i1) eL_435 (ctX6_set l G A c (xs (nI i + (1 : Int32)).toNatClampNeg) (xs (nI i + (2 : Int32)).toNatClampNeg) e6) tc_319 tw_316 tw_1 tw_317 tw_318 0 rfl rfl hdX6_set rfl ⟨Nat.le_of_ble_eq_true rfl, Nat.le_of_ble_eq_true rfl⟩ ⟨ic_le2 i0 i1, isl_le2 i0 i1⟩ rfl (Nat.le_of_ble_eq_true rfl) (List.append_assoc _ _ _) (List.append_assoc _ _ _).symm ?_
  refine V_aload_n eL_438 2 rfl ?_
  refine V_aload_n eL_439 0 rfl ?_
  refine V_iload_n eL_440 3 rfl ?_
  refine V_iconst (v := (1 : Int32)) eL_441 rfl ?_
  refine V_iadd eL_442 ?_
  refine V_sld eL_443 (lw_in 1 hi hL (by decide) rfl) ?_
  refine V_aload_n eL_444 0 rfl ?_
  refine V_iload_n eL_445 3 rfl ?_
  refine V_iconst (v := (2 : Int32)) eL_446 rfl ?_
  refine V_iadd eL_447 ?_
  refine V_sld eL_448 (lw_in 2 hi hL (by decide) rfl) ?_
  refine V_callBi (rest := [.int r]) (wl := wC G A c2 ++ imC G A i0 i1) (w1 := wM G B m2) eL_449 (ctX7_set l G B m (xs (nI i + (1 : Int32)).toNatClampNeg) (xs (nI i + (2 : Int32)).toNatClampNeg) e7) tc_805 tw_802 tw_8 tw_803 tw_804 0 rfl rfl hdX7_set rfl ⟨Nat.le_of_ble_eq_true rfl, Nat.le_of_ble_eq_true rfl⟩ ⟨ic_le2 i0 i1, isl_le2 i0 i1⟩ rfl (Nat.le_of_ble_eq_true rfl) ?_
  refine V_icmp_eq (tgt := 1115) eL_452 rfl (fun _ => ?_) (fun hb => absurd rfl hb)
  exact kk c2 m2 hI2
def OK_judge (Inv : SS → SS → tg_I → tg_I → Prop) : Prop := ∀ (c m : SS) (i0 i1 : tg_I) (a1 : Int32), Inv c m i0 i1 → ∃ (r : Int32) (c2 : SS) (m2 : SS), fX6_judge c a1 = some (r, c2) ∧ fX7_judge m a1 = some (r, m2) ∧ Inv c2 m2 i0 i1
set_option maxRecDepth 20000 in
theorem law_judge {l : Launch} {G : tg_G} {b L i : Nat} {nm : String} {xs : Nat → Int32} (hi : i + 7 ≤ L) (hL : L ≤ 3584) {Inv : SS → SS → tg_I → tg_I → Prop} (ok : OK_judge Inv) (A B : Nat → Nat) (c m : SS) (i0 i1 : tg_I) (hI : Inv c m i0 i1) (kk : ∀ c2 m2, Inv c2 m2 i0 i1 → V l G ZL (EL b L xs) room_1 "TramGodLaw" nm code 4 ret 1115 [(0, .ref b), (1, .ref (A 0)), (2, .ref (B 0)), (3, .int (nI i))] [] (wL G A B c2 m2 i0 i1) (49 + ic i0 + ic i1) (375659 + isl i0 + isl i1)) : V l G ZL (EL b L xs) room_1 "TramGodLaw" nm code 4 ret 457 [(0, .ref b), (1, .ref (A 0)), (2, .ref (B 0)), (3, .int (nI i))] [] (wL G A B c m i0 i1) (49 + ic i0 + ic i1) (375659 + isl i0 + isl i1) := by
  obtain ⟨r, c2, m2, e6, e7, hI2⟩ := ok c m i0 i1 (xs (nI i + (1 : Int32)).toNatClampNeg) hI
  refine V_aload_n eL_457 1 rfl ?_
  refine V_aload_n eL_458 0 rfl ?_
  refine V_iload_n eL_459 3 rfl ?_
  refine V_iconst (v := (1 : Int32)) eL_460 rfl ?_
  refine V_iadd eL_461 ?_
  refine V_sld eL_462 (lw_in 1 hi hL (by decide) rfl) ?_
  refine V_callAi (rest := []) (wr := imC G A i0 i1 ++ wM G B m) (w' := wL G A B c2 m i0 i1) eL_463 (ctX6_judge l G A c (xs (nI i + (1 : Int32)).toNatClampNeg) e6) tc_323 tw_320 tw_1 tw_321 tw_322 0 rfl rfl hdX6_judge rfl ⟨Nat.le_of_ble_eq_true rfl, Nat.le_of_ble_eq_true rfl⟩ ⟨ic_le2 i0 i1, isl_le2 i0 i1⟩ rfl (Nat.le_of_ble_eq_true rfl) (List.append_assoc _ _ _) (List.append_assoc _ _ _).symm ?_
  refine V_aload_n eL_466 2 rfl ?_
  refine V_aload_n eL_467 0 rfl ?_
  refine V_iload_n eL_468 3 rfl ?_
  refine V_iconst (v := (1 : Int32)) eL_469 rfl ?_
  refine V_iadd eL_470 ?_
  refine V_sld eL_471 (lw_in 1 hi hL (by decide) rfl) ?_
  refine V_callBi (rest := [.int r]) (wl := wC G A c2 ++ imC G A i0 i1) (w1 := wM G B m2) eL_472 (ctX7_judge l G B m (xs (nI i + (1 : Int32)).toNatClampNeg) e7) tc_809 tw_806 tw_8 tw_807 tw_808 0 rfl rfl hdX7_judge rfl ⟨Nat.le_of_ble_eq_true rfl, Nat.le_of_ble_eq_true rfl⟩ ⟨ic_le2 i0 i1, isl_le2 i0 i1⟩ rfl (Nat.le_of_ble_eq_true rfl) ?_
  refine V_icmp_eq (tgt := 1115) eL_475 rfl (fun _ => ?_) (fun hb => absurd rfl hb)
  exact kk c2 m2 hI2
def OK_riders (Inv : SS → SS → tg_I → tg_I → Prop) : Prop := ∀ (c m : SS) (i0 i1 : tg_I) , Inv c m i0 i1 → ∃ (r : Int32) (c2 : SS) (m2 : SS), fX6_riders c = some (r, c2) ∧ fX7_riders m = some (r, m2) ∧ Inv c2 m2 i0 i1
set_option maxRecDepth 20000 in
theorem law_riders {l : Launch} {G : tg_G} {b L i : Nat} {nm : String} {xs : Nat → Int32} (hi : i + 7 ≤ L) (hL : L ≤ 3584) {Inv : SS → SS → tg_I → tg_I → Prop} (ok : OK_riders Inv) (A B : Nat → Nat) (c m : SS) (i0 i1 : tg_I) (hI : Inv c m i0 i1) (kk : ∀ c2 m2, Inv c2 m2 i0 i1 → V l G ZL (EL b L xs) room_1 "TramGodLaw" nm code 4 ret 1115 [(0, .ref b), (1, .ref (A 0)), (2, .ref (B 0)), (3, .int (nI i))] [] (wL G A B c2 m2 i0 i1) (49 + ic i0 + ic i1) (375659 + isl i0 + isl i1)) : V l G ZL (EL b L xs) room_1 "TramGodLaw" nm code 4 ret 480 [(0, .ref b), (1, .ref (A 0)), (2, .ref (B 0)), (3, .int (nI i))] [] (wL G A B c m i0 i1) (49 + ic i0 + ic i1) (375659 + isl i0 + isl i1) := by
  obtain ⟨r, c2, m2, e6, e7, hI2⟩ := ok c m i0 i1 hI
  refine V_aload_n eL_480 1 rfl ?_
  refine V_callAi (rest := []) (wr := imC G A i0 i1 ++ wM G B m) (w' := wL G A B c2 m i0 i1) eL_481 (ctX6_riders l G A c  e6) tc_344 tw_341 tw_1 tw_342 tw_343 0 rfl rfl hdX6_riders rfl ⟨Nat.le_of_ble_eq_true rfl, Nat.le_of_ble_eq_true rfl⟩ ⟨ic_le2 i0 i1, isl_le2 i0 i1⟩ rfl (Nat.le_of_ble_eq_true rfl) (List.append_assoc _ _ _) (List.append_assoc _ _ _).symm ?_
  refine V_aload_n eL_484 2 rfl ?_
  refine V_callBi (rest := [.int r]) (wl := wC G A c2 ++ imC G A i0 i1) (w1 := wM G B m2) eL_485 (ctX7_riders l G B m  e7) tc_822 tw_819 tw_8 tw_820 tw_821 0 rfl rfl hdX7_riders rfl ⟨Nat.le_of_ble_eq_true rfl, Nat.le_of_ble_eq_true rfl⟩ ⟨ic_le2 i0 i1, isl_le2 i0 i1⟩ rfl (Nat.le_of_ble_eq_true rfl) ?_
  refine V_icmp_eq (tgt := 1115) eL_488 rfl (fun _ => ?_) (fun hb => absurd rfl hb)
  exact kk c2 m2 hI2
def OK_good (Inv : SS → SS → tg_I → tg_I → Prop) : Prop := ∀ (c m : SS) (i0 i1 : tg_I) (a1 : Int32), Inv c m i0 i1 → ∃ (r : Int32) (c2 : SS) (m2 : SS), fX6_good c a1 = some (r, c2) ∧ fX7_good m a1 = some (r, m2) ∧ Inv c2 m2 i0 i1
set_option maxRecDepth 20000 in
theorem law_good {l : Launch} {G : tg_G} {b L i : Nat} {nm : String} {xs : Nat → Int32} (hi : i + 7 ≤ L) (hL : L ≤ 3584) {Inv : SS → SS → tg_I → tg_I → Prop} (ok : OK_good Inv) (A B : Nat → Nat) (c m : SS) (i0 i1 : tg_I) (hI : Inv c m i0 i1) (kk : ∀ c2 m2, Inv c2 m2 i0 i1 → V l G ZL (EL b L xs) room_1 "TramGodLaw" nm code 4 ret 1115 [(0, .ref b), (1, .ref (A 0)), (2, .ref (B 0)), (3, .int (nI i))] [] (wL G A B c2 m2 i0 i1) (49 + ic i0 + ic i1) (375659 + isl i0 + isl i1)) : V l G ZL (EL b L xs) room_1 "TramGodLaw" nm code 4 ret 493 [(0, .ref b), (1, .ref (A 0)), (2, .ref (B 0)), (3, .int (nI i))] [] (wL G A B c m i0 i1) (49 + ic i0 + ic i1) (375659 + isl i0 + isl i1) := by
  obtain ⟨r, c2, m2, e6, e7, hI2⟩ := ok c m i0 i1 (xs (nI i + (1 : Int32)).toNatClampNeg) hI
  refine V_aload_n eL_493 1 rfl ?_
  refine V_aload_n eL_494 0 rfl ?_
  refine V_iload_n eL_495 3 rfl ?_
  refine V_iconst (v := (1 : Int32)) eL_496 rfl ?_
  refine V_iadd eL_497 ?_
  refine V_sld eL_498 (lw_in 1 hi hL (by decide) rfl) ?_
  refine V_callAi (rest := []) (wr := imC G A i0 i1 ++ wM G B m) (w' := wL G A B c2 m i0 i1) eL_499 (ctX6_good l G A c (xs (nI i + (1 : Int32)).toNatClampNeg) e6) tc_373 tw_370 tw_1 tw_371 tw_372 0 rfl rfl hdX6_good rfl ⟨Nat.le_of_ble_eq_true rfl, Nat.le_of_ble_eq_true rfl⟩ ⟨ic_le2 i0 i1, isl_le2 i0 i1⟩ rfl (Nat.le_of_ble_eq_true rfl) (List.append_assoc _ _ _) (List.append_assoc _ _ _).symm ?_
  refine V_aload_n eL_502 2 rfl ?_
  refine V_aload_n eL_503 0 rfl ?_
  refine V_iload_n eL_504 3 rfl ?_
  refine V_iconst (v := (1 : Int32)) eL_505 rfl ?_
  refine V_iadd eL_506 ?_
  refine V_sld eL_507 (lw_in 1 hi hL (by decide) rfl) ?_
  refine V_callBi (rest := [.int r]) (wl := wC G A c2 ++ imC G A i0 i1) (w1 := wM G B m2) eL_508 (ctX7_good l G B m (xs (nI i + (1 : Int32)).toNatClampNeg) e7) tc_842 tw_839 tw_8 tw_840 tw_841 0 rfl rfl hdX7_good rfl ⟨Nat.le_of_ble_eq_true rfl, Nat.le_of_ble_eq_true rfl⟩ ⟨ic_le2 i0 i1, isl_le2 i0 i1⟩ rfl (Nat.le_of_ble_eq_true rfl) ?_
  refine V_icmp_eq (tgt := 1115) eL_511 rfl (fun _ => ?_) (fun hb => absurd rfl hb)
  exact kk c2 m2 hI2
def OK_leaves (Inv : SS → SS → tg_I → tg_I → Prop) : Prop := ∀ (c m : SS) (i0 i1 : tg_I) (a1 : Int32), Inv c m i0 i1 → ∃ (r : Int32) (c2 : SS) (m2 : SS), fX6_leaves c a1 = some (r, c2) ∧ fX7_leaves m a1 = some (r, m2) ∧ Inv c2 m2 i0 i1
set_option maxRecDepth 20000 in
theorem law_leaves {l : Launch} {G : tg_G} {b L i : Nat} {nm : String} {xs : Nat → Int32} (hi : i + 7 ≤ L) (hL : L ≤ 3584) {Inv : SS → SS → tg_I → tg_I → Prop} (ok : OK_leaves Inv) (A B : Nat → Nat) (c m : SS) (i0 i1 : tg_I) (hI : Inv c m i0 i1) (kk : ∀ c2 m2, Inv c2 m2 i0 i1 → V l G ZL (EL b L xs) room_1 "TramGodLaw" nm code 4 ret 1115 [(0, .ref b), (1, .ref (A 0)), (2, .ref (B 0)), (3, .int (nI i))] [] (wL G A B c2 m2 i0 i1) (49 + ic i0 + ic i1) (375659 + isl i0 + isl i1)) : V l G ZL (EL b L xs) room_1 "TramGodLaw" nm code 4 ret 516 [(0, .ref b), (1, .ref (A 0)), (2, .ref (B 0)), (3, .int (nI i))] [] (wL G A B c m i0 i1) (49 + ic i0 + ic i1) (375659 + isl i0 + isl i1) := by
  obtain ⟨r, c2, m2, e6, e7, hI2⟩ := ok c m i0 i1 (xs (nI i + (1 : Int32)).toNatClampNeg) hI
  refine V_aload_n eL_516 1 rfl ?_
  refine V_aload_n eL_517 0 rfl ?_
  refine V_iload_n eL_518 3 rfl ?_
  refine V_iconst (v := (1 : Int32)) eL_519 rfl ?_
  refine V_iadd eL_520 ?_
  refine V_sld eL_521 (lw_in 1 hi hL (by decide) rfl) ?_
  refine V_callAi (rest := []) (wr := imC G A i0 i1 ++ wM G B m) (w' := wL G A B c2 m i0 i1) eL_522 (ctX6_leaves l G A c (xs (nI i + (1 : Int32)).toNatClampNeg) e6) tc_389 tw_386 tw_1 tw_387 tw_388 0 rfl rfl hdX6_leaves rfl ⟨Nat.le_of_ble_eq_true rfl, Nat.le_of_ble_eq_true rfl⟩ ⟨ic_le2 i0 i1, isl_le2 i0 i1⟩ rfl (Nat.le_of_ble_eq_true rfl) (List.append_assoc _ _ _) (List.append_assoc _ _ _).symm ?_
  refine V_aload_n eL_525 2 rfl ?_
  refine V_aload_n eL_526 0 rfl ?_
  refine V_iload_n eL_527 3 rfl ?_
  refine V_iconst (v := (1 : Int32)) eL_528 rfl ?_
  refine V_iadd eL_529 ?_
  refine V_sld eL_530 (lw_in 1 hi hL (by decide) rfl) ?_
  refine V_callBi (rest := [.int r]) (wl := wC G A c2 ++ imC G A i0 i1) (w1 := wM G B m2) eL_531 (ctX7_leaves l G B m (xs (nI i + (1 : Int32)).toNatClampNeg) e7) tc_854 tw_851 tw_8 tw_852 tw_853 0 rfl rfl hdX7_leaves rfl ⟨Nat.le_of_ble_eq_true rfl, Nat.le_of_ble_eq_true rfl⟩ ⟨ic_le2 i0 i1, isl_le2 i0 i1⟩ rfl (Nat.le_of_ble_eq_true rfl) ?_
  refine V_icmp_eq (tgt := 1115) eL_534 rfl (fun _ => ?_) (fun hb => absurd rfl hb)
  exact kk c2 m2 hI2
def OK_vain (Inv : SS → SS → tg_I → tg_I → Prop) : Prop := ∀ (c m : SS) (i0 i1 : tg_I) , Inv c m i0 i1 → ∃ (r : Int32) (c2 : SS) (m2 : SS), fX6_vain c = some (r, c2) ∧ fX7_vain m = some (r, m2) ∧ Inv c2 m2 i0 i1
set_option maxRecDepth 20000 in
theorem law_vain {l : Launch} {G : tg_G} {b L i : Nat} {nm : String} {xs : Nat → Int32} (hi : i + 7 ≤ L) (hL : L ≤ 3584) {Inv : SS → SS → tg_I → tg_I → Prop} (ok : OK_vain Inv) (A B : Nat → Nat) (c m : SS) (i0 i1 : tg_I) (hI : Inv c m i0 i1) (kk : ∀ c2 m2, Inv c2 m2 i0 i1 → V l G ZL (EL b L xs) room_1 "TramGodLaw" nm code 4 ret 1115 [(0, .ref b), (1, .ref (A 0)), (2, .ref (B 0)), (3, .int (nI i))] [] (wL G A B c2 m2 i0 i1) (49 + ic i0 + ic i1) (375659 + isl i0 + isl i1)) : V l G ZL (EL b L xs) room_1 "TramGodLaw" nm code 4 ret 539 [(0, .ref b), (1, .ref (A 0)), (2, .ref (B 0)), (3, .int (nI i))] [] (wL G A B c m i0 i1) (49 + ic i0 + ic i1) (375659 + isl i0 + isl i1) := by
  obtain ⟨r, c2, m2, e6, e7, hI2⟩ := ok c m i0 i1 hI
  refine V_aload_n eL_539 1 rfl ?_
  refine V_callAi (rest := []) (wr := imC G A i0 i1 ++ wM G B m) (w' := wL G A B c2 m i0 i1) eL_540 (ctX6_vain l G A c  e6) tc_394 tw_391 tw_1 tw_392 tw_393 0 rfl rfl hdX6_vain rfl ⟨Nat.le_of_ble_eq_true rfl, Nat.le_of_ble_eq_true rfl⟩ ⟨ic_le2 i0 i1, isl_le2 i0 i1⟩ rfl (Nat.le_of_ble_eq_true rfl) (List.append_assoc _ _ _) (List.append_assoc _ _ _).symm ?_
  refine V_aload_n eL_543 2 rfl ?_
  refine V_callBi (rest := [.int r]) (wl := wC G A c2 ++ imC G A i0 i1) (w1 := wM G B m2) eL_544 (ctX7_vain l G B m  e7) tc_858 tw_855 tw_8 tw_856 tw_857 0 rfl rfl hdX7_vain rfl ⟨Nat.le_of_ble_eq_true rfl, Nat.le_of_ble_eq_true rfl⟩ ⟨ic_le2 i0 i1, isl_le2 i0 i1⟩ rfl (Nat.le_of_ble_eq_true rfl) ?_
  refine V_icmp_eq (tgt := 1115) eL_547 rfl (fun _ => ?_) (fun hb => absurd rfl hb)
  exact kk c2 m2 hI2
def OK_best (Inv : SS → SS → tg_I → tg_I → Prop) : Prop := ∀ (c m : SS) (i0 i1 : tg_I) (a1 : Int32), Inv c m i0 i1 → ∃ (r : Int32) (c2 : SS) (m2 : SS), fX6_best c a1 = some (r, c2) ∧ fX7_best m a1 = some (r, m2) ∧ Inv c2 m2 i0 i1
set_option maxRecDepth 20000 in
theorem law_best {l : Launch} {G : tg_G} {b L i : Nat} {nm : String} {xs : Nat → Int32} (hi : i + 7 ≤ L) (hL : L ≤ 3584) {Inv : SS → SS → tg_I → tg_I → Prop} (ok : OK_best Inv) (A B : Nat → Nat) (c m : SS) (i0 i1 : tg_I) (hI : Inv c m i0 i1) (kk : ∀ c2 m2, Inv c2 m2 i0 i1 → V l G ZL (EL b L xs) room_1 "TramGodLaw" nm code 4 ret 1115 [(0, .ref b), (1, .ref (A 0)), (2, .ref (B 0)), (3, .int (nI i))] [] (wL G A B c2 m2 i0 i1) (49 + ic i0 + ic i1) (375659 + isl i0 + isl i1)) : V l G ZL (EL b L xs) room_1 "TramGodLaw" nm code 4 ret 552 [(0, .ref b), (1, .ref (A 0)), (2, .ref (B 0)), (3, .int (nI i))] [] (wL G A B c m i0 i1) (49 + ic i0 + ic i1) (375659 + isl i0 + isl i1) := by
  obtain ⟨r, c2, m2, e6, e7, hI2⟩ := ok c m i0 i1 (xs (nI i + (1 : Int32)).toNatClampNeg) hI
  refine V_aload_n eL_552 1 rfl ?_
  refine V_aload_n eL_553 0 rfl ?_
  refine V_iload_n eL_554 3 rfl ?_
  refine V_iconst (v := (1 : Int32)) eL_555 rfl ?_
  refine V_iadd eL_556 ?_
  refine V_sld eL_557 (lw_in 1 hi hL (by decide) rfl) ?_
  refine V_callAi (rest := []) (wr := imC G A i0 i1 ++ wM G B m) (w' := wL G A B c2 m i0 i1) eL_558 (ctX6_best l G A c (xs (nI i + (1 : Int32)).toNatClampNeg) e6) tc_402 tw_399 tw_1 tw_400 tw_401 0 rfl rfl hdX6_best rfl ⟨Nat.le_of_ble_eq_true rfl, Nat.le_of_ble_eq_true rfl⟩ ⟨ic_le2 i0 i1, isl_le2 i0 i1⟩ rfl (Nat.le_of_ble_eq_true rfl) (List.append_assoc _ _ _) (List.append_assoc _ _ _).symm ?_
  refine V_aload_n eL_561 2 rfl ?_
  refine V_aload_n eL_562 0 rfl ?_
  refine V_iload_n eL_563 3 rfl ?_
  refine V_iconst (v := (1 : Int32)) eL_564 rfl ?_
  refine V_iadd eL_565 ?_
  refine V_sld eL_566 (lw_in 1 hi hL (by decide) rfl) ?_
  refine V_callBi (rest := [.int r]) (wl := wC G A c2 ++ imC G A i0 i1) (w1 := wM G B m2) eL_567 (ctX7_best l G B m (xs (nI i + (1 : Int32)).toNatClampNeg) e7) tc_862 tw_859 tw_8 tw_860 tw_861 0 rfl rfl hdX7_best rfl ⟨Nat.le_of_ble_eq_true rfl, Nat.le_of_ble_eq_true rfl⟩ ⟨ic_le2 i0 i1, isl_le2 i0 i1⟩ rfl (Nat.le_of_ble_eq_true rfl) ?_
  refine V_icmp_eq (tgt := 1115) eL_570 rfl (fun _ => ?_) (fun hb => absurd rfl hb)
  exact kk c2 m2 hI2
def OK_worth (Inv : SS → SS → tg_I → tg_I → Prop) : Prop := ∀ (c m : SS) (i0 i1 : tg_I) , Inv c m i0 i1 → ∃ (r : Int32) (c2 : SS) (m2 : SS), fX6_worth c = some (r, c2) ∧ fX7_worth m = some (r, m2) ∧ Inv c2 m2 i0 i1
set_option maxRecDepth 20000 in
theorem law_worth {l : Launch} {G : tg_G} {b L i : Nat} {nm : String} {xs : Nat → Int32} (hi : i + 7 ≤ L) (hL : L ≤ 3584) {Inv : SS → SS → tg_I → tg_I → Prop} (ok : OK_worth Inv) (A B : Nat → Nat) (c m : SS) (i0 i1 : tg_I) (hI : Inv c m i0 i1) (kk : ∀ c2 m2, Inv c2 m2 i0 i1 → V l G ZL (EL b L xs) room_1 "TramGodLaw" nm code 4 ret 1115 [(0, .ref b), (1, .ref (A 0)), (2, .ref (B 0)), (3, .int (nI i))] [] (wL G A B c2 m2 i0 i1) (49 + ic i0 + ic i1) (375659 + isl i0 + isl i1)) : V l G ZL (EL b L xs) room_1 "TramGodLaw" nm code 4 ret 575 [(0, .ref b), (1, .ref (A 0)), (2, .ref (B 0)), (3, .int (nI i))] [] (wL G A B c m i0 i1) (49 + ic i0 + ic i1) (375659 + isl i0 + isl i1) := by
  obtain ⟨r, c2, m2, e6, e7, hI2⟩ := ok c m i0 i1 hI
  refine V_aload_n eL_575 1 rfl ?_
  refine V_callAi (rest := []) (wr := imC G A i0 i1 ++ wM G B m) (w' := wL G A B c2 m i0 i1) eL_576 (ctX6_worth l G A c  e6) tc_448 tw_445 tw_1 tw_446 tw_447 0 rfl rfl hdX6_worth rfl ⟨Nat.le_of_ble_eq_true rfl, Nat.le_of_ble_eq_true rfl⟩ ⟨ic_le2 i0 i1, isl_le2 i0 i1⟩ rfl (Nat.le_of_ble_eq_true rfl) (List.append_assoc _ _ _) (List.append_assoc _ _ _).symm ?_
  refine V_aload_n eL_579 2 rfl ?_
  refine V_callBi (rest := [.int r]) (wl := wC G A c2 ++ imC G A i0 i1) (w1 := wM G B m2) eL_580 (ctX7_worth l G B m  e7) tc_887 tw_884 tw_8 tw_885 tw_886 0 rfl rfl hdX7_worth rfl ⟨Nat.le_of_ble_eq_true rfl, Nat.le_of_ble_eq_true rfl⟩ ⟨ic_le2 i0 i1, isl_le2 i0 i1⟩ rfl (Nat.le_of_ble_eq_true rfl) ?_
  refine V_icmp_eq (tgt := 1115) eL_583 rfl (fun _ => ?_) (fun hb => absurd rfl hb)
  exact kk c2 m2 hI2
def OK_meant (Inv : SS → SS → tg_I → tg_I → Prop) : Prop := ∀ (c m : SS) (i0 i1 : tg_I) (a1 : Int32) (a2 : Int32) (a3 : Int32), Inv c m i0 i1 → ∃ (r : Int32) (c2 : SS) (m2 : SS), fX6_meant c a1 a2 a3 = some (r, c2) ∧ fX7_meant m a1 a2 a3 = some (r, m2) ∧ Inv c2 m2 i0 i1
set_option maxRecDepth 20000 in
theorem law_meant {l : Launch} {G : tg_G} {b L i : Nat} {nm : String} {xs : Nat → Int32} (hi : i + 7 ≤ L) (hL : L ≤ 3584) {Inv : SS → SS → tg_I → tg_I → Prop} (ok : OK_meant Inv) (A B : Nat → Nat) (c m : SS) (i0 i1 : tg_I) (hI : Inv c m i0 i1) (kk : ∀ c2 m2, Inv c2 m2 i0 i1 → V l G ZL (EL b L xs) room_1 "TramGodLaw" nm code 4 ret 1115 [(0, .ref b), (1, .ref (A 0)), (2, .ref (B 0)), (3, .int (nI i))] [] (wL G A B c2 m2 i0 i1) (49 + ic i0 + ic i1) (375659 + isl i0 + isl i1)) : V l G ZL (EL b L xs) room_1 "TramGodLaw" nm code 4 ret 588 [(0, .ref b), (1, .ref (A 0)), (2, .ref (B 0)), (3, .int (nI i))] [] (wL G A B c m i0 i1) (49 + ic i0 + ic i1) (375659 + isl i0 + isl i1) := by
  obtain ⟨r, c2, m2, e6, e7, hI2⟩ := ok c m i0 i1 (xs (nI i + (1 : Int32)).toNatClampNeg) (xs (nI i + (2 : Int32)).toNatClampNeg) (xs (nI i + (3 : Int32)).toNatClampNeg) hI
  refine V_aload_n eL_588 1 rfl ?_
  refine V_aload_n eL_589 0 rfl ?_
  refine V_iload_n eL_590 3 rfl ?_
  refine V_iconst (v := (1 : Int32)) eL_591 rfl ?_
  refine V_iadd eL_592 ?_
  refine V_sld eL_593 (lw_in 1 hi hL (by decide) rfl) ?_
  refine V_aload_n eL_594 0 rfl ?_
  refine V_iload_n eL_595 3 rfl ?_
  refine V_iconst (v := (2 : Int32)) eL_596 rfl ?_
  refine V_iadd eL_597 ?_
  refine V_sld eL_598 (lw_in 2 hi hL (by decide) rfl) ?_
  refine V_aload_n eL_599 0 rfl ?_
  refine V_iload_n eL_600 3 rfl ?_
  refine V_iconst (v := (3 : Int32)) eL_601 rfl ?_
  refine V_iadd eL_602 ?_
  refine V_sld eL_603 (lw_in 3 hi hL (by decide) rfl) ?_
  refine V_callAi (rest := []) (wr := imC G A i0 i1 ++ wM G B m) (w' := wL G A B c2 m i0 i1) eL_604 (ctX6_meant l G A c (xs (nI i + (1 : Int32)).toNatClampNeg) (xs (nI i + (2 : Int32)).toNatClampNeg) (xs (nI i + (3 : Int32)).toNatClampNeg) e6) tc_452 tw_449 tw_1 tw_450 tw_451 0 rfl rfl hdX6_meant rfl ⟨Nat.le_of_ble_eq_true rfl, Nat.le_of_ble_eq_true rfl⟩ ⟨ic_le2 i0 i1, isl_le2 i0 i1⟩ rfl (Nat.le_of_ble_eq_true rfl) (List.append_assoc _ _ _) (List.append_assoc _ _ _).symm ?_
  refine V_aload_n eL_607 2 rfl ?_
  refine V_aload_n eL_608 0 rfl ?_
  refine V_iload_n eL_609 3 rfl ?_
  refine V_iconst (v := (1 : Int32)) eL_610 rfl ?_
  refine V_iadd eL_611 ?_
  refine V_sld eL_612 (lw_in 1 hi hL (by decide) rfl) ?_
  refine V_aload_n eL_613 0 rfl ?_
  refine V_iload_n eL_614 3 rfl ?_
  refine V_iconst (v := (2 : Int32)) eL_615 rfl ?_
  refine V_iadd eL_616 ?_
  refine V_sld eL_617 (lw_in 2 hi hL (by decide) rfl) ?_
  refine V_aload_n eL_618 0 rfl ?_
  refine V_iload_n eL_619 3 rfl ?_
  refine V_iconst (v := (3 : Int32)) eL_620 rfl ?_
  refine V_iadd eL_621 ?_
  refine V_sld eL_622 (lw_in 3 hi hL (by decide) rfl) ?_
  refine V_callBi (rest := [.int r]) (wl := wC G A c2 ++ imC G A i0 i1) (w1 := wM G B m2) eL_623 (ctX7_meant l G B m (xs (nI i + (1 : Int32)).toNatClampNeg) (xs (nI i + (2 : Int32)).toNatClampNeg) (xs (nI i + (3 : Int32)).toNatClampNeg) e7) tc_891 tw_888 tw_8 tw_889 tw_890 0 rfl rfl hdX7_meant rfl ⟨Nat.le_of_ble_eq_true rfl, Nat.le_of_ble_eq_true rfl⟩ ⟨ic_le2 i0 i1, isl_le2 i0 i1⟩ rfl (Nat.le_of_ble_eq_true rfl) ?_
  refine V_icmp_eq (tgt := 1115) eL_626 rfl (fun _ => ?_) (fun hb => absurd rfl hb)
  exact kk c2 m2 hI2
def OK_bars (Inv : SS → SS → tg_I → tg_I → Prop) : Prop := ∀ (c m : SS) (i0 i1 : tg_I) (a1 : Int32) (a2 : Int32), Inv c m i0 i1 → ∃ (r : Int32) (c2 : SS) (m2 : SS), fX6_bars c a1 a2 = some (r, c2) ∧ fX7_bars m a1 a2 = some (r, m2) ∧ Inv c2 m2 i0 i1
set_option maxRecDepth 20000 in
theorem law_bars {l : Launch} {G : tg_G} {b L i : Nat} {nm : String} {xs : Nat → Int32} (hi : i + 7 ≤ L) (hL : L ≤ 3584) {Inv : SS → SS → tg_I → tg_I → Prop} (ok : OK_bars Inv) (A B : Nat → Nat) (c m : SS) (i0 i1 : tg_I) (hI : Inv c m i0 i1) (kk : ∀ c2 m2, Inv c2 m2 i0 i1 → V l G ZL (EL b L xs) room_1 "TramGodLaw" nm code 4 ret 1115 [(0, .ref b), (1, .ref (A 0)), (2, .ref (B 0)), (3, .int (nI i))] [] (wL G A B c2 m2 i0 i1) (49 + ic i0 + ic i1) (375659 + isl i0 + isl i1)) : V l G ZL (EL b L xs) room_1 "TramGodLaw" nm code 4 ret 631 [(0, .ref b), (1, .ref (A 0)), (2, .ref (B 0)), (3, .int (nI i))] [] (wL G A B c m i0 i1) (49 + ic i0 + ic i1) (375659 + isl i0 + isl i1) := by
  obtain ⟨r, c2, m2, e6, e7, hI2⟩ := ok c m i0 i1 (xs (nI i + (1 : Int32)).toNatClampNeg) (xs (nI i + (2 : Int32)).toNatClampNeg) hI
  refine V_aload_n eL_631 1 rfl ?_
  refine V_aload_n eL_632 0 rfl ?_
  refine V_iload_n eL_633 3 rfl ?_
  refine V_iconst (v := (1 : Int32)) eL_634 rfl ?_
  refine V_iadd eL_635 ?_
  refine V_sld eL_636 (lw_in 1 hi hL (by decide) rfl) ?_
  refine V_aload_n eL_637 0 rfl ?_
  refine V_iload_n eL_638 3 rfl ?_
  refine V_iconst (v := (2 : Int32)) eL_639 rfl ?_
  refine V_iadd eL_640 ?_
  refine V_sld eL_641 (lw_in 2 hi hL (by decide) rfl) ?_
  refine V_callAi (rest := []) (wr := imC G A i0 i1 ++ wM G B m) (w' := wL G A B c2 m i0 i1) eL_642 (ctX6_bars l G A c (xs (nI i + (1 : Int32)).toNatClampNeg) (xs (nI i + (2 : Int32)).toNatClampNeg) e6) tc_470 tw_467 tw_1 tw_468 tw_469 0 rfl rfl hdX6_bars rfl ⟨Nat.le_of_ble_eq_true rfl, Nat.le_of_ble_eq_true rfl⟩ ⟨ic_le2 i0 i1, isl_le2 i0 i1⟩ rfl (Nat.le_of_ble_eq_true rfl) (List.append_assoc _ _ _) (List.append_assoc _ _ _).symm ?_
  refine V_aload_n eL_645 2 rfl ?_
  refine V_aload_n eL_646 0 rfl ?_
  refine V_iload_n eL_647 3 rfl ?_
  refine V_iconst (v := (1 : Int32)) eL_648 rfl ?_
  refine V_iadd eL_649 ?_
  refine V_sld eL_650 (lw_in 1 hi hL (by decide) rfl) ?_
  refine V_aload_n eL_651 0 rfl ?_
  refine V_iload_n eL_652 3 rfl ?_
  refine V_iconst (v := (2 : Int32)) eL_653 rfl ?_
  refine V_iadd eL_654 ?_
  refine V_sld eL_655 (lw_in 2 hi hL (by decide) rfl) ?_
  refine V_callBi (rest := [.int r]) (wl := wC G A c2 ++ imC G A i0 i1) (w1 := wM G B m2) eL_656 (ctX7_bars l G B m (xs (nI i + (1 : Int32)).toNatClampNeg) (xs (nI i + (2 : Int32)).toNatClampNeg) e7) tc_904 tw_901 tw_8 tw_902 tw_903 0 rfl rfl hdX7_bars rfl ⟨Nat.le_of_ble_eq_true rfl, Nat.le_of_ble_eq_true rfl⟩ ⟨ic_le2 i0 i1, isl_le2 i0 i1⟩ rfl (Nat.le_of_ble_eq_true rfl) ?_
  refine V_icmp_eq (tgt := 1115) eL_659 rfl (fun _ => ?_) (fun hb => absurd rfl hb)
  exact kk c2 m2 hI2
def OK_fund (Inv : SS → SS → tg_I → tg_I → Prop) : Prop := ∀ (c m : SS) (i0 i1 : tg_I) (a1 : Int32) (a2 : Int32) (a3 : Int32), Inv c m i0 i1 → ∃ (r : Int32) (c2 : SS) (m2 : SS), fX6_fund c a1 a2 a3 = some (r, c2) ∧ fX7_fund m a1 a2 a3 = some (r, m2) ∧ Inv c2 m2 i0 i1
set_option maxRecDepth 20000 in
theorem law_fund {l : Launch} {G : tg_G} {b L i : Nat} {nm : String} {xs : Nat → Int32} (hi : i + 7 ≤ L) (hL : L ≤ 3584) {Inv : SS → SS → tg_I → tg_I → Prop} (ok : OK_fund Inv) (A B : Nat → Nat) (c m : SS) (i0 i1 : tg_I) (hI : Inv c m i0 i1) (kk : ∀ c2 m2, Inv c2 m2 i0 i1 → V l G ZL (EL b L xs) room_1 "TramGodLaw" nm code 4 ret 1115 [(0, .ref b), (1, .ref (A 0)), (2, .ref (B 0)), (3, .int (nI i))] [] (wL G A B c2 m2 i0 i1) (49 + ic i0 + ic i1) (375659 + isl i0 + isl i1)) : V l G ZL (EL b L xs) room_1 "TramGodLaw" nm code 4 ret 664 [(0, .ref b), (1, .ref (A 0)), (2, .ref (B 0)), (3, .int (nI i))] [] (wL G A B c m i0 i1) (49 + ic i0 + ic i1) (375659 + isl i0 + isl i1) := by
  obtain ⟨r, c2, m2, e6, e7, hI2⟩ := ok c m i0 i1 (xs (nI i + (1 : Int32)).toNatClampNeg) (xs (nI i + (2 : Int32)).toNatClampNeg) (xs (nI i + (3 : Int32)).toNatClampNeg) hI
  refine V_aload_n eL_664 1 rfl ?_
  refine V_aload_n eL_665 0 rfl ?_
  refine V_iload_n eL_666 3 rfl ?_
  refine V_iconst (v := (1 : Int32)) eL_667 rfl ?_
  refine V_iadd eL_668 ?_
  refine V_sld eL_669 (lw_in 1 hi hL (by decide) rfl) ?_
  refine V_aload_n eL_670 0 rfl ?_
  refine V_iload_n eL_671 3 rfl ?_
  refine V_iconst (v := (2 : Int32)) eL_672 rfl ?_
  refine V_iadd eL_673 ?_
  refine V_sld eL_674 (lw_in 2 hi hL (by decide) rfl) ?_
  refine V_aload_n eL_675 0 rfl ?_
  refine V_iload_n eL_676 3 rfl ?_
  refine V_iconst (v := (3 : Int32)) eL_677 rfl ?_
  refine V_iadd eL_678 ?_
  refine V_sld eL_679 (lw_in 3 hi hL (by decide) rfl) ?_
  refine V_callAi (rest := []) (wr := imC G A i0 i1 ++ wM G B m) (w' := wL G A B c2 m i0 i1) eL_680 (ctX6_fund l G A c (xs (nI i + (1 : Int32)).toNatClampNeg) (xs (nI i + (2 : Int32)).toNatClampNeg) (xs (nI i + (3 : Int32)).toNatClampNeg) e6) tc_474 tw_471 tw_1 tw_472 tw_473 0 rfl rfl hdX6_fund rfl ⟨Nat.le_of_ble_eq_true rfl, Nat.le_of_ble_eq_true rfl⟩ ⟨ic_le2 i0 i1, isl_le2 i0 i1⟩ rfl (Nat.le_of_ble_eq_true rfl) (List.append_assoc _ _ _) (List.append_assoc _ _ _).symm ?_
  refine V_aload_n eL_683 2 rfl ?_
  refine V_aload_n eL_684 0 rfl ?_
  refine V_iload_n eL_685 3 rfl ?_
  refine V_iconst (v := (1 : Int32)) eL_686 rfl ?_
  refine V_iadd eL_687 ?_
  refine V_sld eL_688 (lw_in 1 hi hL (by decide) rfl) ?_
  refine V_aload_n eL_689 0 rfl ?_
  refine V_iload_n eL_690 3 rfl ?_
  refine V_iconst (v := (2 : Int32)) eL_691 rfl ?_
  refine V_iadd eL_692 ?_
  refine V_sld eL_693 (lw_in 2 hi hL (by decide) rfl) ?_
  refine V_aload_n eL_694 0 rfl ?_
  refine V_iload_n eL_695 3 rfl ?_
  refine V_iconst (v := (3 : Int32)) eL_696 rfl ?_
  refine V_iadd eL_697 ?_
  refine V_sld eL_698 (lw_in 3 hi hL (by decide) rfl) ?_
  refine V_callBi (rest := [.int r]) (wl := wC G A c2 ++ imC G A i0 i1) (w1 := wM G B m2) eL_699 (ctX7_fund l G B m (xs (nI i + (1 : Int32)).toNatClampNeg) (xs (nI i + (2 : Int32)).toNatClampNeg) (xs (nI i + (3 : Int32)).toNatClampNeg) e7) tc_908 tw_905 tw_8 tw_906 tw_907 0 rfl rfl hdX7_fund rfl ⟨Nat.le_of_ble_eq_true rfl, Nat.le_of_ble_eq_true rfl⟩ ⟨ic_le2 i0 i1, isl_le2 i0 i1⟩ rfl (Nat.le_of_ble_eq_true rfl) ?_
  refine V_icmp_eq (tgt := 1115) eL_702 rfl (fun _ => ?_) (fun hb => absurd rfl hb)
  exact kk c2 m2 hI2
def OK_rival (Inv : SS → SS → tg_I → tg_I → Prop) : Prop := ∀ (c m : SS) (i0 i1 : tg_I) (a1 : Int32), Inv c m i0 i1 → ∃ (r : Int32) (c2 : SS) (m2 : SS), fX6_rival c a1 = some (r, c2) ∧ fX7_rival m a1 = some (r, m2) ∧ Inv c2 m2 i0 i1
set_option maxRecDepth 20000 in
theorem law_rival {l : Launch} {G : tg_G} {b L i : Nat} {nm : String} {xs : Nat → Int32} (hi : i + 7 ≤ L) (hL : L ≤ 3584) {Inv : SS → SS → tg_I → tg_I → Prop} (ok : OK_rival Inv) (A B : Nat → Nat) (c m : SS) (i0 i1 : tg_I) (hI : Inv c m i0 i1) (kk : ∀ c2 m2, Inv c2 m2 i0 i1 → V l G ZL (EL b L xs) room_1 "TramGodLaw" nm code 4 ret 1115 [(0, .ref b), (1, .ref (A 0)), (2, .ref (B 0)), (3, .int (nI i))] [] (wL G A B c2 m2 i0 i1) (49 + ic i0 + ic i1) (375659 + isl i0 + isl i1)) : V l G ZL (EL b L xs) room_1 "TramGodLaw" nm code 4 ret 707 [(0, .ref b), (1, .ref (A 0)), (2, .ref (B 0)), (3, .int (nI i))] [] (wL G A B c m i0 i1) (49 + ic i0 + ic i1) (375659 + isl i0 + isl i1) := by
  obtain ⟨r, c2, m2, e6, e7, hI2⟩ := ok c m i0 i1 (xs (nI i + (1 : Int32)).toNatClampNeg) hI
  refine V_aload_n eL_707 1 rfl ?_
  refine V_aload_n eL_708 0 rfl ?_
  refine V_iload_n eL_709 3 rfl ?_
  refine V_iconst (v := (1 : Int32)) eL_710 rfl ?_
  refine V_iadd eL_711 ?_
  refine V_sld eL_712 (lw_in 1 hi hL (by decide) rfl) ?_
  refine V_callAi (rest := []) (wr := imC G A i0 i1 ++ wM G B m) (w' := wL G A B c2 m i0 i1) eL_713 (ctX6_rival l G A c (xs (nI i + (1 : Int32)).toNatClampNeg) e6) tc_506 tw_503 tw_1 tw_504 tw_505 0 rfl rfl hdX6_rival rfl ⟨Nat.le_of_ble_eq_true rfl, Nat.le_of_ble_eq_true rfl⟩ ⟨ic_le2 i0 i1, isl_le2 i0 i1⟩ rfl (Nat.le_of_ble_eq_true rfl) (List.append_assoc _ _ _) (List.append_assoc _ _ _).symm ?_
  refine V_aload_n eL_716 2 rfl ?_
  refine V_aload_n eL_717 0 rfl ?_
  refine V_iload_n eL_718 3 rfl ?_
  refine V_iconst (v := (1 : Int32)) eL_719 rfl ?_
  refine V_iadd eL_720 ?_
  refine V_sld eL_721 (lw_in 1 hi hL (by decide) rfl) ?_
  refine V_callBi (rest := [.int r]) (wl := wC G A c2 ++ imC G A i0 i1) (w1 := wM G B m2) eL_722 (ctX7_rival l G B m (xs (nI i + (1 : Int32)).toNatClampNeg) e7) tc_918 tw_915 tw_8 tw_916 tw_917 0 rfl rfl hdX7_rival rfl ⟨Nat.le_of_ble_eq_true rfl, Nat.le_of_ble_eq_true rfl⟩ ⟨ic_le2 i0 i1, isl_le2 i0 i1⟩ rfl (Nat.le_of_ble_eq_true rfl) ?_
  refine V_icmp_eq (tgt := 1115) eL_725 rfl (fun _ => ?_) (fun hb => absurd rfl hb)
  exact kk c2 m2 hI2
def OK_closing (Inv : SS → SS → tg_I → tg_I → Prop) : Prop := ∀ (c m : SS) (i0 i1 : tg_I) (a1 : Int32) (a2 : Int32), Inv c m i0 i1 → ∃ (r : Int32) (c2 : SS) (m2 : SS), fX6_closing c a1 a2 = some (r, c2) ∧ fX7_closing m a1 a2 = some (r, m2) ∧ Inv c2 m2 i0 i1
set_option maxRecDepth 20000 in
theorem law_closing {l : Launch} {G : tg_G} {b L i : Nat} {nm : String} {xs : Nat → Int32} (hi : i + 7 ≤ L) (hL : L ≤ 3584) {Inv : SS → SS → tg_I → tg_I → Prop} (ok : OK_closing Inv) (A B : Nat → Nat) (c m : SS) (i0 i1 : tg_I) (hI : Inv c m i0 i1) (kk : ∀ c2 m2, Inv c2 m2 i0 i1 → V l G ZL (EL b L xs) room_1 "TramGodLaw" nm code 4 ret 1115 [(0, .ref b), (1, .ref (A 0)), (2, .ref (B 0)), (3, .int (nI i))] [] (wL G A B c2 m2 i0 i1) (49 + ic i0 + ic i1) (375659 + isl i0 + isl i1)) : V l G ZL (EL b L xs) room_1 "TramGodLaw" nm code 4 ret 730 [(0, .ref b), (1, .ref (A 0)), (2, .ref (B 0)), (3, .int (nI i))] [] (wL G A B c m i0 i1) (49 + ic i0 + ic i1) (375659 + isl i0 + isl i1) := by
  obtain ⟨r, c2, m2, e6, e7, hI2⟩ := ok c m i0 i1 (xs (nI i + (1 : Int32)).toNatClampNeg) (xs (nI i + (2 : Int32)).toNatClampNeg) hI
  refine V_aload_n eL_730 1 rfl ?_
  refine V_aload_n eL_731 0 rfl ?_
  refine V_iload_n eL_732 3 rfl ?_
  refine V_iconst (v := (1 : Int32)) eL_733 rfl ?_
  refine V_iadd eL_734 ?_
  refine V_sld eL_735 (lw_in 1 hi hL (by decide) rfl) ?_
  refine V_aload_n eL_736 0 rfl ?_
  refine V_iload_n eL_737 3 rfl ?_
  refine V_iconst (v := (2 : Int32)) eL_738 rfl ?_
  refine V_iadd eL_739 ?_
  refine V_sld eL_740 (lw_in 2 hi hL (by decide) rfl) ?_
  refine V_callAi (rest := []) (wr := imC G A i0 i1 ++ wM G B m) (w' := wL G A B c2 m i0 i1) eL_741 (ctX6_closing l G A c (xs (nI i + (1 : Int32)).toNatClampNeg) (xs (nI i + (2 : Int32)).toNatClampNeg) e6) tc_552 tw_549 tw_1 tw_550 tw_551 0 rfl rfl hdX6_closing rfl ⟨Nat.le_of_ble_eq_true rfl, Nat.le_of_ble_eq_true rfl⟩ ⟨ic_le2 i0 i1, isl_le2 i0 i1⟩ rfl (Nat.le_of_ble_eq_true rfl) (List.append_assoc _ _ _) (List.append_assoc _ _ _).symm ?_
  refine V_aload_n eL_744 2 rfl ?_
  refine V_aload_n eL_745 0 rfl ?_
  refine V_iload_n eL_746 3 rfl ?_
  refine V_iconst (v := (1 : Int32)) eL_747 rfl ?_
  refine V_iadd eL_748 ?_
  refine V_sld eL_749 (lw_in 1 hi hL (by decide) rfl) ?_
  refine V_aload_n eL_750 0 rfl ?_
  refine V_iload_n eL_751 3 rfl ?_
  refine V_iconst (v := (2 : Int32)) eL_752 rfl ?_
  refine V_iadd eL_753 ?_
  refine V_sld eL_754 (lw_in 2 hi hL (by decide) rfl) ?_
  refine V_callBi (rest := [.int r]) (wl := wC G A c2 ++ imC G A i0 i1) (w1 := wM G B m2) eL_755 (ctX7_closing l G B m (xs (nI i + (1 : Int32)).toNatClampNeg) (xs (nI i + (2 : Int32)).toNatClampNeg) e7) tc_946 tw_943 tw_8 tw_944 tw_945 0 rfl rfl hdX7_closing rfl ⟨Nat.le_of_ble_eq_true rfl, Nat.le_of_ble_eq_true rfl⟩ ⟨ic_le2 i0 i1, isl_le2 i0 i1⟩ rfl (Nat.le_of_ble_eq_true rfl) ?_
  refine V_icmp_eq (tgt := 1115) eL_758 rfl (fun _ => ?_) (fun hb => absurd rfl hb)
  exact kk c2 m2 hI2
def OK_seen (Inv : SS → SS → tg_I → tg_I → Prop) : Prop := ∀ (c m : SS) (i0 i1 : tg_I) (a1 : Int32) (a2 : Int32), Inv c m i0 i1 → ∃ (r : Int32) (c2 : SS) (m2 : SS), fX6_seen c a1 a2 = (r, c2) ∧ fX7_seen m a1 a2 = some (r, m2) ∧ Inv c2 m2 i0 i1
set_option maxRecDepth 20000 in
theorem law_seen {l : Launch} {G : tg_G} {b L i : Nat} {nm : String} {xs : Nat → Int32} (hi : i + 7 ≤ L) (hL : L ≤ 3584) {Inv : SS → SS → tg_I → tg_I → Prop} (ok : OK_seen Inv) (A B : Nat → Nat) (c m : SS) (i0 i1 : tg_I) (hI : Inv c m i0 i1) (kk : ∀ c2 m2, Inv c2 m2 i0 i1 → V l G ZL (EL b L xs) room_1 "TramGodLaw" nm code 4 ret 1115 [(0, .ref b), (1, .ref (A 0)), (2, .ref (B 0)), (3, .int (nI i))] [] (wL G A B c2 m2 i0 i1) (49 + ic i0 + ic i1) (375659 + isl i0 + isl i1)) : V l G ZL (EL b L xs) room_1 "TramGodLaw" nm code 4 ret 763 [(0, .ref b), (1, .ref (A 0)), (2, .ref (B 0)), (3, .int (nI i))] [] (wL G A B c m i0 i1) (49 + ic i0 + ic i1) (375659 + isl i0 + isl i1) := by
  obtain ⟨r, c2, m2, e6, e7, hI2⟩ := ok c m i0 i1 (xs (nI i + (1 : Int32)).toNatClampNeg) (xs (nI i + (2 : Int32)).toNatClampNeg) hI
  refine V_aload_n eL_763 1 rfl ?_
  refine V_aload_n eL_764 0 rfl ?_
  refine V_iload_n eL_765 3 rfl ?_
  refine V_iconst (v := (1 : Int32)) eL_766 rfl ?_
  refine V_iadd eL_767 ?_
  refine V_sld eL_768 (lw_in 1 hi hL (by decide) rfl) ?_
  refine V_aload_n eL_769 0 rfl ?_
  refine V_iload_n eL_770 3 rfl ?_
  refine V_iconst (v := (2 : Int32)) eL_771 rfl ?_
  refine V_iadd eL_772 ?_
  refine V_sld eL_773 (lw_in 2 hi hL (by decide) rfl) ?_
  refine V_callAi (rest := []) (wr := imC G A i0 i1 ++ wM G B m) (w' := wL G A B c2 m i0 i1) eL_774 (ctX6_seen l G A c (xs (nI i + (1 : Int32)).toNatClampNeg) (xs (nI i + (2 : Int32)).toNatClampNeg) e6) tc_560 tw_557 tw_1 tw_558 tw_559 0 rfl rfl hdX6_seen rfl ⟨Nat.le_of_ble_eq_true rfl, Nat.le_of_ble_eq_true rfl⟩ ⟨ic_le2 i0 i1, isl_le2 i0 i1⟩ rfl (Nat.le_of_ble_eq_true rfl) (List.append_assoc _ _ _) (List.append_assoc _ _ _).symm ?_
  refine V_aload_n eL_777 2 rfl ?_
  refine V_aload_n eL_778 0 rfl ?_
  refine V_iload_n eL_779 3 rfl ?_
  refine V_iconst (v := (1 : Int32)) eL_780 rfl ?_
  refine V_iadd eL_781 ?_
  refine V_sld eL_782 (lw_in 1 hi hL (by decide) rfl) ?_
  refine V_aload_n eL_783 0 rfl ?_
  refine V_iload_n eL_784 3 rfl ?_
  refine V_iconst (v := (2 : Int32)) eL_785 rfl ?_
  refine V_iadd eL_786 ?_
  refine V_sld eL_787 (lw_in 2 hi hL (by decide) rfl) ?_
  refine V_callBi (rest := [.int r]) (wl := wC G A c2 ++ imC G A i0 i1) (w1 := wM G B m2) eL_788 (ctX7_seen l G B m (xs (nI i + (1 : Int32)).toNatClampNeg) (xs (nI i + (2 : Int32)).toNatClampNeg) e7) tc_951 tw_948 tw_8 tw_949 tw_950 0 rfl rfl hdX7_seen rfl ⟨Nat.le_of_ble_eq_true rfl, Nat.le_of_ble_eq_true rfl⟩ ⟨ic_le2 i0 i1, isl_le2 i0 i1⟩ rfl (Nat.le_of_ble_eq_true rfl) ?_
  refine V_icmp_eq (tgt := 1115) eL_791 rfl (fun _ => ?_) (fun hb => absurd rfl hb)
  exact kk c2 m2 hI2
def OK_forget (Inv : SS → SS → tg_I → tg_I → Prop) : Prop := ∀ (c m : SS) (i0 i1 : tg_I) , Inv c m i0 i1 → ∃ (r : Int32) (c2 : SS) (m2 : SS), fX6_forget c = (r, c2) ∧ fX7_forget m = (r, m2) ∧ Inv c2 m2 i0 i1
set_option maxRecDepth 20000 in
theorem law_forget {l : Launch} {G : tg_G} {b L i : Nat} {nm : String} {xs : Nat → Int32} (hi : i + 7 ≤ L) (hL : L ≤ 3584) {Inv : SS → SS → tg_I → tg_I → Prop} (ok : OK_forget Inv) (A B : Nat → Nat) (c m : SS) (i0 i1 : tg_I) (hI : Inv c m i0 i1) (kk : ∀ c2 m2, Inv c2 m2 i0 i1 → V l G ZL (EL b L xs) room_1 "TramGodLaw" nm code 4 ret 1115 [(0, .ref b), (1, .ref (A 0)), (2, .ref (B 0)), (3, .int (nI i))] [] (wL G A B c2 m2 i0 i1) (49 + ic i0 + ic i1) (375659 + isl i0 + isl i1)) : V l G ZL (EL b L xs) room_1 "TramGodLaw" nm code 4 ret 796 [(0, .ref b), (1, .ref (A 0)), (2, .ref (B 0)), (3, .int (nI i))] [] (wL G A B c m i0 i1) (49 + ic i0 + ic i1) (375659 + isl i0 + isl i1) := by
  obtain ⟨r, c2, m2, e6, e7, hI2⟩ := ok c m i0 i1 hI
  refine V_aload_n eL_796 1 rfl ?_
  refine V_callAi (rest := []) (wr := imC G A i0 i1 ++ wM G B m) (w' := wL G A B c2 m i0 i1) eL_797 (ctX6_forget l G A c  e6) tc_568 tw_565 tw_1 tw_566 tw_567 0 rfl rfl hdX6_forget rfl ⟨Nat.le_of_ble_eq_true rfl, Nat.le_of_ble_eq_true rfl⟩ ⟨ic_le2 i0 i1, isl_le2 i0 i1⟩ rfl (Nat.le_of_ble_eq_true rfl) (List.append_assoc _ _ _) (List.append_assoc _ _ _).symm ?_
  refine V_aload_n eL_800 2 rfl ?_
  refine V_callBi (rest := [.int r]) (wl := wC G A c2 ++ imC G A i0 i1) (w1 := wM G B m2) eL_801 (ctX7_forget l G B m  e7) tc_955 tw_952 tw_8 tw_953 tw_954 0 rfl rfl hdX7_forget rfl ⟨Nat.le_of_ble_eq_true rfl, Nat.le_of_ble_eq_true rfl⟩ ⟨ic_le2 i0 i1, isl_le2 i0 i1⟩ rfl (Nat.le_of_ble_eq_true rfl) ?_
  refine V_icmp_eq (tgt := 1115) eL_804 rfl (fun _ => ?_) (fun hb => absurd rfl hb)
  exact kk c2 m2 hI2
def OK_held (Inv : SS → SS → tg_I → tg_I → Prop) : Prop := ∀ (c m : SS) (i0 i1 : tg_I) (a1 : Int32) (a2 : Int32), Inv c m i0 i1 → ∃ (r : Int32) (c2 : SS) (m2 : SS), fX6_held c a1 a2 = some (r, c2) ∧ fX7_held m a1 a2 = some (r, m2) ∧ Inv c2 m2 i0 i1
set_option maxRecDepth 20000 in
theorem law_held {l : Launch} {G : tg_G} {b L i : Nat} {nm : String} {xs : Nat → Int32} (hi : i + 7 ≤ L) (hL : L ≤ 3584) {Inv : SS → SS → tg_I → tg_I → Prop} (ok : OK_held Inv) (A B : Nat → Nat) (c m : SS) (i0 i1 : tg_I) (hI : Inv c m i0 i1) (kk : ∀ c2 m2, Inv c2 m2 i0 i1 → V l G ZL (EL b L xs) room_1 "TramGodLaw" nm code 4 ret 1115 [(0, .ref b), (1, .ref (A 0)), (2, .ref (B 0)), (3, .int (nI i))] [] (wL G A B c2 m2 i0 i1) (49 + ic i0 + ic i1) (375659 + isl i0 + isl i1)) : V l G ZL (EL b L xs) room_1 "TramGodLaw" nm code 4 ret 809 [(0, .ref b), (1, .ref (A 0)), (2, .ref (B 0)), (3, .int (nI i))] [] (wL G A B c m i0 i1) (49 + ic i0 + ic i1) (375659 + isl i0 + isl i1) := by
  obtain ⟨r, c2, m2, e6, e7, hI2⟩ := ok c m i0 i1 (xs (nI i + (1 : Int32)).toNatClampNeg) (xs (nI i + (2 : Int32)).toNatClampNeg) hI
  refine V_aload_n eL_809 1 rfl ?_
  refine V_aload_n eL_810 0 rfl ?_
  refine V_iload_n eL_811 3 rfl ?_
  refine V_iconst (v := (1 : Int32)) eL_812 rfl ?_
  refine V_iadd eL_813 ?_
  refine V_sld eL_814 (lw_in 1 hi hL (by decide) rfl) ?_
  refine V_aload_n eL_815 0 rfl ?_
  refine V_iload_n eL_816 3 rfl ?_
  refine V_iconst (v := (2 : Int32)) eL_817 rfl ?_
  refine V_iadd eL_818 ?_
  refine V_sld eL_819 (lw_in 2 hi hL (by decide) rfl) ?_
  refine V_callAi (rest := []) (wr := imC G A i0 i1 ++ wM G B m) (w' := wL G A B c2 m i0 i1) eL_820 (ctX6_held l G A c (xs (nI i + (1 : Int32)).toNatClampNeg) (xs (nI i + (2 : Int32)).toNatClampNeg) e6) tc_573 tw_570 tw_1 tw_571 tw_572 0 rfl rfl hdX6_held rfl ⟨Nat.le_of_ble_eq_true rfl, Nat.le_of_ble_eq_true rfl⟩ ⟨ic_le2 i0 i1, isl_le2 i0 i1⟩ rfl (Nat.le_of_ble_eq_true rfl) (List.append_assoc _ _ _) (List.append_assoc _ _ _).symm ?_
  refine V_aload_n eL_823 2 rfl ?_
  refine V_aload_n eL_824 0 rfl ?_
  refine V_iload_n eL_825 3 rfl ?_
  refine V_iconst (v := (1 : Int32)) eL_826 rfl ?_
  refine V_iadd eL_827 ?_
  refine V_sld eL_828 (lw_in 1 hi hL (by decide) rfl) ?_
  refine V_aload_n eL_829 0 rfl ?_
  refine V_iload_n eL_830 3 rfl ?_
  refine V_iconst (v := (2 : Int32)) eL_831 rfl ?_
  refine V_iadd eL_832 ?_
  refine V_sld eL_833 (lw_in 2 hi hL (by decide) rfl) ?_
  refine V_callBi (rest := [.int r]) (wl := wC G A c2 ++ imC G A i0 i1) (w1 := wM G B m2) eL_834 (ctX7_held l G B m (xs (nI i + (1 : Int32)).toNatClampNeg) (xs (nI i + (2 : Int32)).toNatClampNeg) e7) tc_959 tw_956 tw_8 tw_957 tw_958 0 rfl rfl hdX7_held rfl ⟨Nat.le_of_ble_eq_true rfl, Nat.le_of_ble_eq_true rfl⟩ ⟨ic_le2 i0 i1, isl_le2 i0 i1⟩ rfl (Nat.le_of_ble_eq_true rfl) ?_
  refine V_icmp_eq (tgt := 1115) eL_837 rfl (fun _ => ?_) (fun hb => absurd rfl hb)
  exact kk c2 m2 hI2
def OK_runs (Inv : SS → SS → tg_I → tg_I → Prop) : Prop := ∀ (c m : SS) (i0 i1 : tg_I) (a1 : Int32) (a2 : Int32) (a3 : Int32) (a4 : Int32), Inv c m i0 i1 → ∃ (r : Int64) (c2 : SS) (m2 : SS), fX6_runs c a1 a2 a3 a4 = some (r, c2) ∧ fX7_runs m a1 a2 a3 a4 = some (r, m2) ∧ Inv c2 m2 i0 i1
set_option maxRecDepth 20000 in
theorem law_runs {l : Launch} {G : tg_G} {b L i : Nat} {nm : String} {xs : Nat → Int32} (hi : i + 7 ≤ L) (hL : L ≤ 3584) {Inv : SS → SS → tg_I → tg_I → Prop} (ok : OK_runs Inv) (A B : Nat → Nat) (c m : SS) (i0 i1 : tg_I) (hI : Inv c m i0 i1) (kk : ∀ c2 m2, Inv c2 m2 i0 i1 → V l G ZL (EL b L xs) room_1 "TramGodLaw" nm code 4 ret 1115 [(0, .ref b), (1, .ref (A 0)), (2, .ref (B 0)), (3, .int (nI i))] [] (wL G A B c2 m2 i0 i1) (49 + ic i0 + ic i1) (375659 + isl i0 + isl i1)) : V l G ZL (EL b L xs) room_1 "TramGodLaw" nm code 4 ret 842 [(0, .ref b), (1, .ref (A 0)), (2, .ref (B 0)), (3, .int (nI i))] [] (wL G A B c m i0 i1) (49 + ic i0 + ic i1) (375659 + isl i0 + isl i1) := by
  obtain ⟨r, c2, m2, e6, e7, hI2⟩ := ok c m i0 i1 (xs (nI i + (1 : Int32)).toNatClampNeg) (xs (nI i + (2 : Int32)).toNatClampNeg) (xs (nI i + (3 : Int32)).toNatClampNeg) (xs (nI i + (4 : Int32)).toNatClampNeg) hI
  refine V_aload_n eL_842 1 rfl ?_
  refine V_aload_n eL_843 0 rfl ?_
  refine V_iload_n eL_844 3 rfl ?_
  refine V_iconst (v := (1 : Int32)) eL_845 rfl ?_
  refine V_iadd eL_846 ?_
  refine V_sld eL_847 (lw_in 1 hi hL (by decide) rfl) ?_
  refine V_aload_n eL_848 0 rfl ?_
  refine V_iload_n eL_849 3 rfl ?_
  refine V_iconst (v := (2 : Int32)) eL_850 rfl ?_
  refine V_iadd eL_851 ?_
  refine V_sld eL_852 (lw_in 2 hi hL (by decide) rfl) ?_
  refine V_aload_n eL_853 0 rfl ?_
  refine V_iload_n eL_854 3 rfl ?_
  refine V_iconst (v := (3 : Int32)) eL_855 rfl ?_
  refine V_iadd eL_856 ?_
  refine V_sld eL_857 (lw_in 3 hi hL (by decide) rfl) ?_
  refine V_aload_n eL_858 0 rfl ?_
  refine V_iload_n eL_859 3 rfl ?_
  refine V_iconst (v := (4 : Int32)) eL_860 rfl ?_
  refine V_iadd eL_861 ?_
  refine V_sld eL_862 (lw_in 4 hi hL (by decide) rfl) ?_
  refine V_callAl (rest := []) (wr := imC G A i0 i1 ++ wM G B m) (w' := wL G A B c2 m i0 i1) eL_863 (ctX6_runs l G A c (xs (nI i + (1 : Int32)).toNatClampNeg) (xs (nI i + (2 : Int32)).toNatClampNeg) (xs (nI i + (3 : Int32)).toNatClampNeg) (xs (nI i + (4 : Int32)).toNatClampNeg) e6) tc_581 tw_578 tw_1 tw_579 tw_580 0 rfl rfl hdX6_runs rfl ⟨Nat.le_of_ble_eq_true rfl, Nat.le_of_ble_eq_true rfl⟩ ⟨ic_le2 i0 i1, isl_le2 i0 i1⟩ rfl (Nat.le_of_ble_eq_true rfl) (List.append_assoc _ _ _) (List.append_assoc _ _ _).symm ?_
  refine V_aload_n eL_866 2 rfl ?_
  refine V_aload_n eL_867 0 rfl ?_
  refine V_iload_n eL_868 3 rfl ?_
  refine V_iconst (v := (1 : Int32)) eL_869 rfl ?_
  refine V_iadd eL_870 ?_
  refine V_sld eL_871 (lw_in 1 hi hL (by decide) rfl) ?_
  refine V_aload_n eL_872 0 rfl ?_
  refine V_iload_n eL_873 3 rfl ?_
  refine V_iconst (v := (2 : Int32)) eL_874 rfl ?_
  refine V_iadd eL_875 ?_
  refine V_sld eL_876 (lw_in 2 hi hL (by decide) rfl) ?_
  refine V_aload_n eL_877 0 rfl ?_
  refine V_iload_n eL_878 3 rfl ?_
  refine V_iconst (v := (3 : Int32)) eL_879 rfl ?_
  refine V_iadd eL_880 ?_
  refine V_sld eL_881 (lw_in 3 hi hL (by decide) rfl) ?_
  refine V_aload_n eL_882 0 rfl ?_
  refine V_iload_n eL_883 3 rfl ?_
  refine V_iconst (v := (4 : Int32)) eL_884 rfl ?_
  refine V_iadd eL_885 ?_
  refine V_sld eL_886 (lw_in 4 hi hL (by decide) rfl) ?_
  refine V_callBl (rest := [.long r]) (wl := wC G A c2 ++ imC G A i0 i1) (w1 := wM G B m2) eL_887 (ctX7_runs l G B m (xs (nI i + (1 : Int32)).toNatClampNeg) (xs (nI i + (2 : Int32)).toNatClampNeg) (xs (nI i + (3 : Int32)).toNatClampNeg) (xs (nI i + (4 : Int32)).toNatClampNeg) e7) tc_968 tw_965 tw_8 tw_966 tw_967 0 rfl rfl hdX7_runs rfl ⟨Nat.le_of_ble_eq_true rfl, Nat.le_of_ble_eq_true rfl⟩ ⟨ic_le2 i0 i1, isl_le2 i0 i1⟩ rfl (Nat.le_of_ble_eq_true rfl) ?_
  refine V_lcmp eL_890 ?_
  refine V_if_eq (tgt := 1115) eL_891 rfl (fun _ => ?_) (fun hb => absurd (lg_cmp_self r) hb)
  exact kk c2 m2 hI2
def OK_mean (Inv : SS → SS → tg_I → tg_I → Prop) : Prop := ∀ (c m : SS) (i0 i1 : tg_I) (a1 : Int32) (a2 : Int32) (a3 : Int32), Inv c m i0 i1 → ∃ (r : Int64) (c2 : SS) (m2 : SS), fX6_mean c a1 a2 a3 = some (r, c2) ∧ fX7_mean m a1 a2 a3 = some (r, m2) ∧ Inv c2 m2 i0 i1
set_option maxRecDepth 20000 in
theorem law_mean {l : Launch} {G : tg_G} {b L i : Nat} {nm : String} {xs : Nat → Int32} (hi : i + 7 ≤ L) (hL : L ≤ 3584) {Inv : SS → SS → tg_I → tg_I → Prop} (ok : OK_mean Inv) (A B : Nat → Nat) (c m : SS) (i0 i1 : tg_I) (hI : Inv c m i0 i1) (kk : ∀ c2 m2, Inv c2 m2 i0 i1 → V l G ZL (EL b L xs) room_1 "TramGodLaw" nm code 4 ret 1115 [(0, .ref b), (1, .ref (A 0)), (2, .ref (B 0)), (3, .int (nI i))] [] (wL G A B c2 m2 i0 i1) (49 + ic i0 + ic i1) (375659 + isl i0 + isl i1)) : V l G ZL (EL b L xs) room_1 "TramGodLaw" nm code 4 ret 896 [(0, .ref b), (1, .ref (A 0)), (2, .ref (B 0)), (3, .int (nI i))] [] (wL G A B c m i0 i1) (49 + ic i0 + ic i1) (375659 + isl i0 + isl i1) := by
  obtain ⟨r, c2, m2, e6, e7, hI2⟩ := ok c m i0 i1 (xs (nI i + (1 : Int32)).toNatClampNeg) (xs (nI i + (2 : Int32)).toNatClampNeg) (xs (nI i + (3 : Int32)).toNatClampNeg) hI
  refine V_aload_n eL_896 1 rfl ?_
  refine V_aload_n eL_897 0 rfl ?_
  refine V_iload_n eL_898 3 rfl ?_
  refine V_iconst (v := (1 : Int32)) eL_899 rfl ?_
  refine V_iadd eL_900 ?_
  refine V_sld eL_901 (lw_in 1 hi hL (by decide) rfl) ?_
  refine V_aload_n eL_902 0 rfl ?_
  refine V_iload_n eL_903 3 rfl ?_
  refine V_iconst (v := (2 : Int32)) eL_904 rfl ?_
  refine V_iadd eL_905 ?_
  refine V_sld eL_906 (lw_in 2 hi hL (by decide) rfl) ?_
  refine V_aload_n eL_907 0 rfl ?_
  refine V_iload_n eL_908 3 rfl ?_
  refine V_iconst (v := (3 : Int32)) eL_909 rfl ?_
  refine V_iadd eL_910 ?_
  refine V_sld eL_911 (lw_in 3 hi hL (by decide) rfl) ?_
  refine V_callAl (rest := []) (wr := imC G A i0 i1 ++ wM G B m) (w' := wL G A B c2 m i0 i1) eL_912 (ctX6_mean l G A c (xs (nI i + (1 : Int32)).toNatClampNeg) (xs (nI i + (2 : Int32)).toNatClampNeg) (xs (nI i + (3 : Int32)).toNatClampNeg) e6) tc_601 tw_598 tw_1 tw_599 tw_600 0 rfl rfl hdX6_mean rfl ⟨Nat.le_of_ble_eq_true rfl, Nat.le_of_ble_eq_true rfl⟩ ⟨ic_le2 i0 i1, isl_le2 i0 i1⟩ rfl (Nat.le_of_ble_eq_true rfl) (List.append_assoc _ _ _) (List.append_assoc _ _ _).symm ?_
  refine V_aload_n eL_915 2 rfl ?_
  refine V_aload_n eL_916 0 rfl ?_
  refine V_iload_n eL_917 3 rfl ?_
  refine V_iconst (v := (1 : Int32)) eL_918 rfl ?_
  refine V_iadd eL_919 ?_
  refine V_sld eL_920 (lw_in 1 hi hL (by decide) rfl) ?_
  refine V_aload_n eL_921 0 rfl ?_
  refine V_iload_n eL_922 3 rfl ?_
  refine V_iconst (v := (2 : Int32)) eL_923 rfl ?_
  refine V_iadd eL_924 ?_
  refine V_sld eL_925 (lw_in 2 hi hL (by decide) rfl) ?_
  refine V_aload_n eL_926 0 rfl ?_
  refine V_iload_n eL_927 3 rfl ?_
  refine V_iconst (v := (3 : Int32)) eL_928 rfl ?_
  refine V_iadd eL_929 ?_
  refine V_sld eL_930 (lw_in 3 hi hL (by decide) rfl) ?_
  refine V_callBl (rest := [.long r]) (wl := wC G A c2 ++ imC G A i0 i1) (w1 := wM G B m2) eL_931 (ctX7_mean l G B m (xs (nI i + (1 : Int32)).toNatClampNeg) (xs (nI i + (2 : Int32)).toNatClampNeg) (xs (nI i + (3 : Int32)).toNatClampNeg) e7) tc_987 tw_984 tw_8 tw_985 tw_986 0 rfl rfl hdX7_mean rfl ⟨Nat.le_of_ble_eq_true rfl, Nat.le_of_ble_eq_true rfl⟩ ⟨ic_le2 i0 i1, isl_le2 i0 i1⟩ rfl (Nat.le_of_ble_eq_true rfl) ?_
  refine V_lcmp eL_934 ?_
  refine V_if_eq (tgt := 1115) eL_935 rfl (fun _ => ?_) (fun hb => absurd (lg_cmp_self r) hb)
  exact kk c2 m2 hI2
def OK_waits (Inv : SS → SS → tg_I → tg_I → Prop) : Prop := ∀ (c m : SS) (i0 i1 : tg_I) (a1 : Int32) (a2 : Int32) (a3 : Int32) (a4 : Int32) (a5 : Int32), Inv c m i0 i1 → ∃ (r : Int32) (c2 : SS) (m2 : SS), fX6_waits c a1 a2 a3 a4 a5 = some (r, c2) ∧ fX7_waits m a1 a2 a3 a4 a5 = some (r, m2) ∧ Inv c2 m2 i0 i1
set_option maxRecDepth 20000 in
theorem law_waits {l : Launch} {G : tg_G} {b L i : Nat} {nm : String} {xs : Nat → Int32} (hi : i + 7 ≤ L) (hL : L ≤ 3584) {Inv : SS → SS → tg_I → tg_I → Prop} (ok : OK_waits Inv) (A B : Nat → Nat) (c m : SS) (i0 i1 : tg_I) (hI : Inv c m i0 i1) (kk : ∀ c2 m2, Inv c2 m2 i0 i1 → V l G ZL (EL b L xs) room_1 "TramGodLaw" nm code 4 ret 1115 [(0, .ref b), (1, .ref (A 0)), (2, .ref (B 0)), (3, .int (nI i))] [] (wL G A B c2 m2 i0 i1) (49 + ic i0 + ic i1) (375659 + isl i0 + isl i1)) : V l G ZL (EL b L xs) room_1 "TramGodLaw" nm code 4 ret 940 [(0, .ref b), (1, .ref (A 0)), (2, .ref (B 0)), (3, .int (nI i))] [] (wL G A B c m i0 i1) (49 + ic i0 + ic i1) (375659 + isl i0 + isl i1) := by
  obtain ⟨r, c2, m2, e6, e7, hI2⟩ := ok c m i0 i1 (xs (nI i + (1 : Int32)).toNatClampNeg) (xs (nI i + (2 : Int32)).toNatClampNeg) (xs (nI i + (3 : Int32)).toNatClampNeg) (xs (nI i + (4 : Int32)).toNatClampNeg) (xs (nI i + (5 : Int32)).toNatClampNeg) hI
  refine V_aload_n eL_940 1 rfl ?_
  refine V_aload_n eL_941 0 rfl ?_
  refine V_iload_n eL_942 3 rfl ?_
  refine V_iconst (v := (1 : Int32)) eL_943 rfl ?_
  refine V_iadd eL_944 ?_
  refine V_sld eL_945 (lw_in 1 hi hL (by decide) rfl) ?_
  refine V_aload_n eL_946 0 rfl ?_
  refine V_iload_n eL_947 3 rfl ?_
  refine V_iconst (v := (2 : Int32)) eL_948 rfl ?_
  refine V_iadd eL_949 ?_
  refine V_sld eL_950 (lw_in 2 hi hL (by decide) rfl) ?_
  refine V_aload_n eL_951 0 rfl ?_
  refine V_iload_n eL_952 3 rfl ?_
  refine V_iconst (v := (3 : Int32)) eL_953 rfl ?_
  refine V_iadd eL_954 ?_
  refine V_sld eL_955 (lw_in 3 hi hL (by decide) rfl) ?_
  refine V_aload_n eL_956 0 rfl ?_
  refine V_iload_n eL_957 3 rfl ?_
  refine V_iconst (v := (4 : Int32)) eL_958 rfl ?_
  refine V_iadd eL_959 ?_
  refine V_sld eL_960 (lw_in 4 hi hL (by decide) rfl) ?_
  refine V_aload_n eL_961 0 rfl ?_
  refine V_iload_n eL_962 3 rfl ?_
  refine V_iconst (v := (5 : Int32)) eL_963 rfl ?_
  refine V_iadd eL_964 ?_
  refine V_sld eL_965 (lw_in 5 hi hL (by decide) rfl) ?_
  refine V_callAi (rest := []) (wr := imC G A i0 i1 ++ wM G B m) (w' := wL G A B c2 m i0 i1) eL_966 (ctX6_waits l G A c (xs (nI i + (1 : Int32)).toNatClampNeg) (xs (nI i + (2 : Int32)).toNatClampNeg) (xs (nI i + (3 : Int32)).toNatClampNeg) (xs (nI i + (4 : Int32)).toNatClampNeg) (xs (nI i + (5 : Int32)).toNatClampNeg) e6) tc_605 tw_602 tw_1 tw_603 tw_604 0 rfl rfl hdX6_waits rfl ⟨Nat.le_of_ble_eq_true rfl, Nat.le_of_ble_eq_true rfl⟩ ⟨ic_le2 i0 i1, isl_le2 i0 i1⟩ rfl (Nat.le_of_ble_eq_true rfl) (List.append_assoc _ _ _) (List.append_assoc _ _ _).symm ?_
  refine V_aload_n eL_969 2 rfl ?_
  refine V_aload_n eL_970 0 rfl ?_
  refine V_iload_n eL_971 3 rfl ?_
  refine V_iconst (v := (1 : Int32)) eL_972 rfl ?_
  refine V_iadd eL_973 ?_
  refine V_sld eL_974 (lw_in 1 hi hL (by decide) rfl) ?_
  refine V_aload_n eL_975 0 rfl ?_
  refine V_iload_n eL_976 3 rfl ?_
  refine V_iconst (v := (2 : Int32)) eL_977 rfl ?_
  refine V_iadd eL_978 ?_
  refine V_sld eL_979 (lw_in 2 hi hL (by decide) rfl) ?_
  refine V_aload_n eL_980 0 rfl ?_
  refine V_iload_n eL_981 3 rfl ?_
  refine V_iconst (v := (3 : Int32)) eL_982 rfl ?_
  refine V_iadd eL_983 ?_
  refine V_sld eL_984 (lw_in 3 hi hL (by decide) rfl) ?_
  refine V_aload_n eL_985 0 rfl ?_
  refine V_iload_n eL_986 3 rfl ?_
  refine V_iconst (v := (4 : Int32)) eL_987 rfl ?_
  refine V_iadd eL_988 ?_
  refine V_sld eL_989 (lw_in 4 hi hL (by decide) rfl) ?_
  refine V_aload_n eL_990 0 rfl ?_
  refine V_iload_n eL_991 3 rfl ?_
  refine V_iconst (v := (5 : Int32)) eL_992 rfl ?_
  refine V_iadd eL_993 ?_
  refine V_sld eL_994 (lw_in 5 hi hL (by decide) rfl) ?_
  refine V_callBi (rest := [.int r]) (wl := wC G A c2 ++ imC G A i0 i1) (w1 := wM G B m2) eL_995 (ctX7_waits l G B m (xs (nI i + (1 : Int32)).toNatClampNeg) (xs (nI i + (2 : Int32)).toNatClampNeg) (xs (nI i + (3 : Int32)).toNatClampNeg) (xs (nI i + (4 : Int32)).toNatClampNeg) (xs (nI i + (5 : Int32)).toNatClampNeg) e7) tc_991 tw_988 tw_8 tw_989 tw_990 0 rfl rfl hdX7_waits rfl ⟨Nat.le_of_ble_eq_true rfl, Nat.le_of_ble_eq_true rfl⟩ ⟨ic_le2 i0 i1, isl_le2 i0 i1⟩ rfl (Nat.le_of_ble_eq_true rfl) ?_
  refine V_icmp_eq (tgt := 1115) eL_998 rfl (fun _ => ?_) (fun hb => absurd rfl hb)
  exact kk c2 m2 hI2
def OK_year (Inv : SS → SS → tg_I → tg_I → Prop) : Prop := ∀ (c m : SS) (i0 i1 : tg_I) (a1 : Int32) (a2 : Int32) (a3 : Int32), Inv c m i0 i1 → ∃ (r : Int32) (c2 : SS) (m2 : SS), fX6_year c a1 a2 a3 = some (r, c2) ∧ fX7_year m a1 a2 a3 = some (r, m2) ∧ Inv c2 m2 i0 i1
set_option maxRecDepth 20000 in
theorem law_year {l : Launch} {G : tg_G} {b L i : Nat} {nm : String} {xs : Nat → Int32} (hi : i + 7 ≤ L) (hL : L ≤ 3584) {Inv : SS → SS → tg_I → tg_I → Prop} (ok : OK_year Inv) (A B : Nat → Nat) (c m : SS) (i0 i1 : tg_I) (hI : Inv c m i0 i1) (kk : ∀ c2 m2, Inv c2 m2 i0 i1 → V l G ZL (EL b L xs) room_1 "TramGodLaw" nm code 4 ret 1115 [(0, .ref b), (1, .ref (A 0)), (2, .ref (B 0)), (3, .int (nI i))] [] (wL G A B c2 m2 i0 i1) (49 + ic i0 + ic i1) (375659 + isl i0 + isl i1)) : V l G ZL (EL b L xs) room_1 "TramGodLaw" nm code 4 ret 1003 [(0, .ref b), (1, .ref (A 0)), (2, .ref (B 0)), (3, .int (nI i))] [] (wL G A B c m i0 i1) (49 + ic i0 + ic i1) (375659 + isl i0 + isl i1) := by
  obtain ⟨r, c2, m2, e6, e7, hI2⟩ := ok c m i0 i1 (xs (nI i + (1 : Int32)).toNatClampNeg) (xs (nI i + (2 : Int32)).toNatClampNeg) (xs (nI i + (3 : Int32)).toNatClampNeg) hI
  refine V_aload_n eL_1003 1 rfl ?_
  refine V_aload_n eL_1004 0 rfl ?_
  refine V_iload_n eL_1005 3 rfl ?_
  refine V_iconst (v := (1 : Int32)) eL_1006 rfl ?_
  refine V_iadd eL_1007 ?_
  refine V_sld eL_1008 (lw_in 1 hi hL (by decide) rfl) ?_
  refine V_aload_n eL_1009 0 rfl ?_
  refine V_iload_n eL_1010 3 rfl ?_
  refine V_iconst (v := (2 : Int32)) eL_1011 rfl ?_
  refine V_iadd eL_1012 ?_
  refine V_sld eL_1013 (lw_in 2 hi hL (by decide) rfl) ?_
  refine V_aload_n eL_1014 0 rfl ?_
  refine V_iload_n eL_1015 3 rfl ?_
  refine V_iconst (v := (3 : Int32)) eL_1016 rfl ?_
  refine V_iadd eL_1017 ?_
  refine V_sld eL_1018 (lw_in 3 hi hL (by decide) rfl) ?_
  refine V_callAi (rest := []) (wr := imC G A i0 i1 ++ wM G B m) (w' := wL G A B c2 m i0 i1) eL_1019 (ctX6_year l G A c (xs (nI i + (1 : Int32)).toNatClampNeg) (xs (nI i + (2 : Int32)).toNatClampNeg) (xs (nI i + (3 : Int32)).toNatClampNeg) e6) tc_610 tw_607 tw_1 tw_608 tw_609 0 rfl rfl hdX6_year rfl ⟨Nat.le_of_ble_eq_true rfl, Nat.le_of_ble_eq_true rfl⟩ ⟨ic_le2 i0 i1, isl_le2 i0 i1⟩ rfl (Nat.le_of_ble_eq_true rfl) (List.append_assoc _ _ _) (List.append_assoc _ _ _).symm ?_
  refine V_aload_n eL_1022 2 rfl ?_
  refine V_aload_n eL_1023 0 rfl ?_
  refine V_iload_n eL_1024 3 rfl ?_
  refine V_iconst (v := (1 : Int32)) eL_1025 rfl ?_
  refine V_iadd eL_1026 ?_
  refine V_sld eL_1027 (lw_in 1 hi hL (by decide) rfl) ?_
  refine V_aload_n eL_1028 0 rfl ?_
  refine V_iload_n eL_1029 3 rfl ?_
  refine V_iconst (v := (2 : Int32)) eL_1030 rfl ?_
  refine V_iadd eL_1031 ?_
  refine V_sld eL_1032 (lw_in 2 hi hL (by decide) rfl) ?_
  refine V_aload_n eL_1033 0 rfl ?_
  refine V_iload_n eL_1034 3 rfl ?_
  refine V_iconst (v := (3 : Int32)) eL_1035 rfl ?_
  refine V_iadd eL_1036 ?_
  refine V_sld eL_1037 (lw_in 3 hi hL (by decide) rfl) ?_
  refine V_callBi (rest := [.int r]) (wl := wC G A c2 ++ imC G A i0 i1) (w1 := wM G B m2) eL_1038 (ctX7_year l G B m (xs (nI i + (1 : Int32)).toNatClampNeg) (xs (nI i + (2 : Int32)).toNatClampNeg) (xs (nI i + (3 : Int32)).toNatClampNeg) e7) tc_996 tw_993 tw_8 tw_994 tw_995 0 rfl rfl hdX7_year rfl ⟨Nat.le_of_ble_eq_true rfl, Nat.le_of_ble_eq_true rfl⟩ ⟨ic_le2 i0 i1, isl_le2 i0 i1⟩ rfl (Nat.le_of_ble_eq_true rfl) ?_
  refine V_icmp_eq (tgt := 1115) eL_1041 rfl (fun _ => ?_) (fun hb => absurd rfl hb)
  exact kk c2 m2 hI2
def OK_told (Inv : SS → SS → tg_I → tg_I → Prop) : Prop := ∀ (c m : SS) (i0 i1 : tg_I) (a1 : Int32), Inv c m i0 i1 → ∃ (r : Int32), fX6_told c a1 = some r ∧ fX7_told m a1 = some r ∧ Inv c m i0 i1
set_option maxRecDepth 20000 in
theorem law_told {l : Launch} {G : tg_G} {b L i : Nat} {nm : String} {xs : Nat → Int32} (hi : i + 7 ≤ L) (hL : L ≤ 3584) {Inv : SS → SS → tg_I → tg_I → Prop} (ok : OK_told Inv) (A B : Nat → Nat) (c m : SS) (i0 i1 : tg_I) (hI : Inv c m i0 i1) (kk : ∀ c2 m2, Inv c2 m2 i0 i1 → V l G ZL (EL b L xs) room_1 "TramGodLaw" nm code 4 ret 1115 [(0, .ref b), (1, .ref (A 0)), (2, .ref (B 0)), (3, .int (nI i))] [] (wL G A B c2 m2 i0 i1) (49 + ic i0 + ic i1) (375659 + isl i0 + isl i1)) : V l G ZL (EL b L xs) room_1 "TramGodLaw" nm code 4 ret 1092 [(0, .ref b), (1, .ref (A 0)), (2, .ref (B 0)), (3, .int (nI i))] [] (wL G A B c m i0 i1) (49 + ic i0 + ic i1) (375659 + isl i0 + isl i1) := by
  obtain ⟨r, e6, e7, hI2⟩ := ok c m i0 i1 (xs (nI i + (1 : Int32)).toNatClampNeg) hI
  refine V_aload_n eL_1092 1 rfl ?_
  refine V_aload_n eL_1093 0 rfl ?_
  refine V_iload_n eL_1094 3 rfl ?_
  refine V_iconst (v := (1 : Int32)) eL_1095 rfl ?_
  refine V_iadd eL_1096 ?_
  refine V_sld eL_1097 (lw_in 1 hi hL (by decide) rfl) ?_
  refine V_callAi (rest := []) (wr := imC G A i0 i1 ++ wM G B m) (w' := wL G A B c m i0 i1) eL_1098 (ctX6_told l G A c (xs (nI i + (1 : Int32)).toNatClampNeg) e6) tc_633 tw_630 tw_1 tw_631 tw_632 0 rfl rfl hdX6_told rfl ⟨Nat.le_of_ble_eq_true rfl, Nat.le_of_ble_eq_true rfl⟩ ⟨ic_le2 i0 i1, isl_le2 i0 i1⟩ rfl (Nat.le_of_ble_eq_true rfl) (List.append_assoc _ _ _) (List.append_assoc _ _ _).symm ?_
  refine V_aload_n eL_1101 2 rfl ?_
  refine V_aload_n eL_1102 0 rfl ?_
  refine V_iload_n eL_1103 3 rfl ?_
  refine V_iconst (v := (1 : Int32)) eL_1104 rfl ?_
  refine V_iadd eL_1105 ?_
  refine V_sld eL_1106 (lw_in 1 hi hL (by decide) rfl) ?_
  refine V_callBi (rest := [.int r]) (wl := wC G A c ++ imC G A i0 i1) (w1 := wM G B m) eL_1107 (ctX7_told l G B m (xs (nI i + (1 : Int32)).toNatClampNeg) e7) tc_1021 tw_1018 tw_8 tw_1019 tw_1020 0 rfl rfl hdX7_told rfl ⟨Nat.le_of_ble_eq_true rfl, Nat.le_of_ble_eq_true rfl⟩ ⟨ic_le2 i0 i1, isl_le2 i0 i1⟩ rfl (Nat.le_of_ble_eq_true rfl) ?_
  refine V_icmp_eq (tgt := 1115) eL_1110 rfl (fun _ => ?_) (fun hb => absurd rfl hb)
  exact kk c m hI2
