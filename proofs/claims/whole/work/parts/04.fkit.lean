abbrev SS : Type := (Nat → Int32) × (Nat → Nat → Int32)
def sF (c : SS) (k : Nat) (v : Int32) : SS := (upd c.1 k v, c.2)
def sA (c : SS) (k i : Nat) (v : Int32) : SS := (c.1, va_up c.2 k (upd (c.2 k) i v))
abbrev irm (x y : Int32) : Int32 := x - x / y * y
abbrev lrm (x y : Int64) : Int64 := x - x / y * y
abbrev ush (x y : Int32) : Int32 := (x.toUInt32 >>> (y.toUInt32 &&& Int32.toUInt32 31)).toInt32
abbrev tg_R (f n : Nat) : Room := { frames := f, cells := 0, slots := 0, locals := n }
def fu : Nat := 1000000
def oob (i : Int32) (n : Nat) : Prop := i < 0 ∨ n ≤ i.toNatClampNeg
def ald {β : Type} (n : Nat) (f : Nat → Int32) (i : Int32) (K : Int32 → Option β) : Option β := if i < 0 ∨ n ≤ i.toNatClampNeg then none else K (f i.toNatClampNeg)
def ckb {β : Type} (n : Nat) (i : Int32) (K : Option β) : Option β := if i < 0 ∨ n ≤ i.toNatClampNeg then none else K
def dvz {β : Type} (y : Int32) (K : Option β) : Option β := if y = 0 then none else K
def dvzl {β : Type} (y : Int64) (K : Option β) : Option β := if y = 0 then none else K
def gz {β : Type} (v : Int32) (K : Option β) : Option β := if v = 0 ∨ v = 1 then K else none
def swo {β : Type} (x lo hi : Int32) (K : Option β) : Option β := if x.toInt < lo.toInt ∨ hi.toInt < x.toInt then K else none
def jn {α β : Type} (B : α) (F : α → β) : β := F B
theorem ald_some {β : Type} {n : Nat} {f : Nat → Int32} {i : Int32} {K : Int32 → Option β} {z : β} (h : ald n f i K = some z) : ∃ v, vp_in i n ∧ f i.toNatClampNeg = v ∧ K v = some z := by
  unfold ald at h
  by_cases hc : i < 0 ∨ n ≤ i.toNatClampNeg
  · rw [if_pos hc] at h; cases h
  · rw [if_neg hc] at h; exact ⟨_, hc, rfl, h⟩
theorem ckb_some {β : Type} {n : Nat} {i : Int32} {K : Option β} {z : β} (h : ckb n i K = some z) : vp_in i n ∧ K = some z := by
  unfold ckb at h
  by_cases hc : i < 0 ∨ n ≤ i.toNatClampNeg
  · rw [if_pos hc] at h; cases h
  · rw [if_neg hc] at h; exact ⟨hc, h⟩
theorem dvz_some {β : Type} {y : Int32} {K : Option β} {z : β} (h : dvz y K = some z) : ¬ y = 0 ∧ K = some z := by
  unfold dvz at h
  by_cases hc : y = 0
  · rw [if_pos hc] at h; cases h
  · rw [if_neg hc] at h; exact ⟨hc, h⟩
theorem dvzl_some {β : Type} {y : Int64} {K : Option β} {z : β} (h : dvzl y K = some z) : ¬ y = 0 ∧ K = some z := by
  unfold dvzl at h
  by_cases hc : y = 0
  · rw [if_pos hc] at h; cases h
  · rw [if_neg hc] at h; exact ⟨hc, h⟩
theorem gz_some {β : Type} {v : Int32} {K : Option β} {z : β} (h : gz v K = some z) : narrow .boolean (.int v) = .int v ∧ K = some z := by
  unfold gz at h
  by_cases hc : v = 0 ∨ v = 1
  · rw [if_pos hc] at h; refine ⟨?_, h⟩
    rcases hc with rfl | rfl <;> rfl
  · rw [if_neg hc] at h; cases h
theorem swo_some {β : Type} {x lo hi : Int32} {K : Option β} {z : β} (h : swo x lo hi K = some z) : (x.toInt < lo.toInt ∨ hi.toInt < x.toInt) ∧ K = some z := by
  unfold swo at h
  by_cases hc : x.toInt < lo.toInt ∨ hi.toInt < x.toInt
  · rw [if_pos hc] at h; exact ⟨hc, h⟩
  · rw [if_neg hc] at h; cases h
theorem jn_elim {α β : Type} {B : α} {F : α → β} {z : β} {g : Prop} (h : jn B F = z) (P : α → Prop) (hB : P B) (hF : ∀ j, P j → F j = z → g) : g := hF B hB h
section TG2
variable {l : Launch} {G : tg_G} {Z : tg_Z} {E : tg_E} {R : Room} {own nm : String} {cc : ByteArray} {nL : Nat} {ret : Option FieldType} {pc pc2 : Nat} {lv : List (Nat × Value)} {rest : List Value} {w : va_W} {k n : Nat}
theorem Mt_of2 {y : MethodName} {rm : Room} {av : List Value} {Q : Option Value → va_W → Prop} (ho : y.cls = own) (hn : y.name = nm) (hy : plainName y.cls = true) (hls : (lg_sl av).length ≤ nL) {lv : List (Nat × Value)} (hlv : lv_args 0 av = lv) (kk : V l G (tg_Zm G Q rm.cells rm.slots) tg_E0 rm own nm cc nL ret 0 lv [] w 0 0) : Mt l G y cc nL ret rm av w Q := by
  subst ho; subst hn
  exact Mt_of hy hls hlv kk
theorem V_ialdv {a N : Nat} {f : Nat → Int32} {i v : Int32} (d : Dc cc pc (.iaload) 1 pc2) (q0 : Nat) (he : w[q0]? = some (a, .inl (G.2.1, N, .inl f))) (hi : vp_in i N) (hv : f i.toNatClampNeg = v) (kk : V l G Z E R own nm cc nL ret pc2 lv (.int v :: rest) w k n) : V l G Z E R own nm cc nL ret pc lv (.int i :: .ref a :: rest) w k n := by
  subst hv
  exact V_iald d q0 he hi kk
theorem V_zaldv {a N : Nat} {f : Nat → Int32} {i v : Int32} (d : Dc cc pc (.baload) 1 pc2) (q0 : Nat) (he : w[q0]? = some (a, .inl (G.2.2.1, N, .inl f))) (hi : vp_in i N) (hv : f i.toNatClampNeg = v) (kk : V l G Z E R own nm cc nL ret pc2 lv (.int v :: rest) w k n) : V l G Z E R own nm cc nL ret pc lv (.int i :: .ref a :: rest) w k n := by
  subst hv
  exact V_zald d q0 he hi kk
theorem V_callVi {y : MethodName} {c2 : ByteArray} {n2 na index f2 lo2 : Nat} {r2 : Option FieldType} {As st : List Value} {w1 : va_W} {v0 : Int32} {b ci : Nat} {fs : List Value} {r : vw_C} (d : Dc cc pc (.invokevirtual index) 3 pc2) (hM : Mt l G y c2 n2 r2 (tg_R f2 lo2) (.ref b :: As) w (fun v w2 => v = some (.int v0) ∧ w2 = w1)) (hcode : Cond.code y c2 n2 r2 ∈ tg_tbl) (hlink : Cond.methodLink own index y ∈ tg_tbl) (hini : Cond.initialized y.cls ∈ tg_tbl) (hin : Cond.instanceMethod y ∈ tg_tbl) (hsel : Cond.selects r.1 y y ∈ tg_tbl) (q0 : Nat) (hq : w[q0]? = some (b, .inr (ci, fs))) (hci : classes[ci]? = some r) (hd2 : y.cls ≠ "java/lang/invoke/MethodHandle" ∧ y.cls ≠ "java/lang/invoke/VarHandle" ∧ (parseMethodDescriptor y.desc).map (fun d => d.parameters.length) = some na) (hna : As.length = na) (hR : f2 + 1 ≤ R.frames ∧ 8 + (n2 + 11) + lo2 ≤ R.locals) (hst : (As.reverse ++ .ref b :: rest) = st) (hroom : (rest.map fun v => v.category).sum ≤ 8) (hcs : k ≤ R.cells ∧ n ≤ R.slots) (kk : V l G Z E R own nm cc nL ret pc2 lv (.int v0 :: rest) w1 k n) : V l G Z E R own nm cc nL ret pc lv st w k n := by
  refine V_callV d hM hcode hlink hini hin hsel q0 hq hci hd2 hna hR hcs hst hroom (fun v w2 hq2 => ?_)
  obtain ⟨rfl, rfl⟩ := hq2
  exact kk
theorem V_callVl {y : MethodName} {c2 : ByteArray} {n2 na index f2 lo2 : Nat} {r2 : Option FieldType} {As st : List Value} {w1 : va_W} {v0 : Int64} {b ci : Nat} {fs : List Value} {r : vw_C} (d : Dc cc pc (.invokevirtual index) 3 pc2) (hM : Mt l G y c2 n2 r2 (tg_R f2 lo2) (.ref b :: As) w (fun v w2 => v = some (.long v0) ∧ w2 = w1)) (hcode : Cond.code y c2 n2 r2 ∈ tg_tbl) (hlink : Cond.methodLink own index y ∈ tg_tbl) (hini : Cond.initialized y.cls ∈ tg_tbl) (hin : Cond.instanceMethod y ∈ tg_tbl) (hsel : Cond.selects r.1 y y ∈ tg_tbl) (q0 : Nat) (hq : w[q0]? = some (b, .inr (ci, fs))) (hci : classes[ci]? = some r) (hd2 : y.cls ≠ "java/lang/invoke/MethodHandle" ∧ y.cls ≠ "java/lang/invoke/VarHandle" ∧ (parseMethodDescriptor y.desc).map (fun d => d.parameters.length) = some na) (hna : As.length = na) (hR : f2 + 1 ≤ R.frames ∧ 8 + (n2 + 11) + lo2 ≤ R.locals) (hst : (As.reverse ++ .ref b :: rest) = st) (hroom : (rest.map fun v => v.category).sum ≤ 8) (hcs : k ≤ R.cells ∧ n ≤ R.slots) (kk : V l G Z E R own nm cc nL ret pc2 lv (.long v0 :: rest) w1 k n) : V l G Z E R own nm cc nL ret pc lv st w k n := by
  refine V_callV d hM hcode hlink hini hin hsel q0 hq hci hd2 hna hR hcs hst hroom (fun v w2 hq2 => ?_)
  obtain ⟨rfl, rfl⟩ := hq2
  exact kk
theorem V_callVv {y : MethodName} {c2 : ByteArray} {n2 na index f2 lo2 : Nat} {r2 : Option FieldType} {As st : List Value} {w1 : va_W} {b ci : Nat} {fs : List Value} {r : vw_C} (d : Dc cc pc (.invokevirtual index) 3 pc2) (hM : Mt l G y c2 n2 r2 (tg_R f2 lo2) (.ref b :: As) w (fun v w2 => v = none ∧ w2 = w1)) (hcode : Cond.code y c2 n2 r2 ∈ tg_tbl) (hlink : Cond.methodLink own index y ∈ tg_tbl) (hini : Cond.initialized y.cls ∈ tg_tbl) (hin : Cond.instanceMethod y ∈ tg_tbl) (hsel : Cond.selects r.1 y y ∈ tg_tbl) (q0 : Nat) (hq : w[q0]? = some (b, .inr (ci, fs))) (hci : classes[ci]? = some r) (hd2 : y.cls ≠ "java/lang/invoke/MethodHandle" ∧ y.cls ≠ "java/lang/invoke/VarHandle" ∧ (parseMethodDescriptor y.desc).map (fun d => d.parameters.length) = some na) (hna : As.length = na) (hR : f2 + 1 ≤ R.frames ∧ 8 + (n2 + 11) + lo2 ≤ R.locals) (hst : (As.reverse ++ .ref b :: rest) = st) (hroom : (rest.map fun v => v.category).sum ≤ 8) (hcs : k ≤ R.cells ∧ n ≤ R.slots) (kk : V l G Z E R own nm cc nL ret pc2 lv (rest) w1 k n) : V l G Z E R own nm cc nL ret pc lv st w k n := by
  refine V_callV d hM hcode hlink hini hin hsel q0 hq hci hd2 hna hR hcs hst hroom (fun v w2 hq2 => ?_)
  obtain ⟨rfl, rfl⟩ := hq2
  exact kk
theorem V_callSi {y : MethodName} {c2 : ByteArray} {n2 na index f2 lo2 : Nat} {r2 : Option FieldType} {As st : List Value} {w1 : va_W} {v0 : Int32} (d : Dc cc pc (.invokestatic index) 3 pc2) (hM : Mt l G y c2 n2 r2 (tg_R f2 lo2) As w (fun v w2 => v = some (.int v0) ∧ w2 = w1)) (hcode : Cond.code y c2 n2 r2 ∈ tg_tbl) (hlink : Cond.methodLink own index y ∈ tg_tbl) (hini : Cond.initialized y.cls ∈ tg_tbl) (hin : Cond.static y ∈ tg_tbl) (hd2 : y.cls ≠ "java/lang/invoke/MethodHandle" ∧ y.cls ≠ "java/lang/invoke/VarHandle" ∧ (parseMethodDescriptor y.desc).map (fun d => d.parameters.length) = some na) (hna : As.length = na) (hR : f2 + 1 ≤ R.frames ∧ 8 + (n2 + 11) + lo2 ≤ R.locals) (hst : (As.reverse ++ rest) = st) (hroom : (rest.map fun v => v.category).sum ≤ 8) (hcs : k ≤ R.cells ∧ n ≤ R.slots) (kk : V l G Z E R own nm cc nL ret pc2 lv (.int v0 :: rest) w1 k n) : V l G Z E R own nm cc nL ret pc lv st w k n := by
  refine V_callS d hM hcode hlink hini hin hd2 hna hR hcs hst hroom (fun v w2 hq2 => ?_)
  obtain ⟨rfl, rfl⟩ := hq2
  exact kk
theorem V_callSl {y : MethodName} {c2 : ByteArray} {n2 na index f2 lo2 : Nat} {r2 : Option FieldType} {As st : List Value} {w1 : va_W} {v0 : Int64} (d : Dc cc pc (.invokestatic index) 3 pc2) (hM : Mt l G y c2 n2 r2 (tg_R f2 lo2) As w (fun v w2 => v = some (.long v0) ∧ w2 = w1)) (hcode : Cond.code y c2 n2 r2 ∈ tg_tbl) (hlink : Cond.methodLink own index y ∈ tg_tbl) (hini : Cond.initialized y.cls ∈ tg_tbl) (hin : Cond.static y ∈ tg_tbl) (hd2 : y.cls ≠ "java/lang/invoke/MethodHandle" ∧ y.cls ≠ "java/lang/invoke/VarHandle" ∧ (parseMethodDescriptor y.desc).map (fun d => d.parameters.length) = some na) (hna : As.length = na) (hR : f2 + 1 ≤ R.frames ∧ 8 + (n2 + 11) + lo2 ≤ R.locals) (hst : (As.reverse ++ rest) = st) (hroom : (rest.map fun v => v.category).sum ≤ 8) (hcs : k ≤ R.cells ∧ n ≤ R.slots) (kk : V l G Z E R own nm cc nL ret pc2 lv (.long v0 :: rest) w1 k n) : V l G Z E R own nm cc nL ret pc lv st w k n := by
  refine V_callS d hM hcode hlink hini hin hd2 hna hR hcs hst hroom (fun v w2 hq2 => ?_)
  obtain ⟨rfl, rfl⟩ := hq2
  exact kk
theorem V_callSv {y : MethodName} {c2 : ByteArray} {n2 na index f2 lo2 : Nat} {r2 : Option FieldType} {As st : List Value} {w1 : va_W} (d : Dc cc pc (.invokestatic index) 3 pc2) (hM : Mt l G y c2 n2 r2 (tg_R f2 lo2) As w (fun v w2 => v = none ∧ w2 = w1)) (hcode : Cond.code y c2 n2 r2 ∈ tg_tbl) (hlink : Cond.methodLink own index y ∈ tg_tbl) (hini : Cond.initialized y.cls ∈ tg_tbl) (hin : Cond.static y ∈ tg_tbl) (hd2 : y.cls ≠ "java/lang/invoke/MethodHandle" ∧ y.cls ≠ "java/lang/invoke/VarHandle" ∧ (parseMethodDescriptor y.desc).map (fun d => d.parameters.length) = some na) (hna : As.length = na) (hR : f2 + 1 ≤ R.frames ∧ 8 + (n2 + 11) + lo2 ≤ R.locals) (hst : (As.reverse ++ rest) = st) (hroom : (rest.map fun v => v.category).sum ≤ 8) (hcs : k ≤ R.cells ∧ n ≤ R.slots) (kk : V l G Z E R own nm cc nL ret pc2 lv (rest) w1 k n) : V l G Z E R own nm cc nL ret pc lv st w k n := by
  refine V_callS d hM hcode hlink hini hin hd2 hna hR hcs hst hroom (fun v w2 hq2 => ?_)
  obtain ⟨rfl, rfl⟩ := hq2
  exact kk
theorem V_callSNi {y : MethodName} {c2 : ByteArray} {n2 na index f2 lo2 : Nat} {r2 : Option FieldType} {As st : List Value} {w1 : va_W} {v0 : Int32} {host : String} (d : Dc cc pc (.invokestatic index) 3 pc2) (hM : Mt l G y c2 n2 r2 (tg_R f2 lo2) As w (fun v w2 => v = some (.int v0) ∧ w2 = w1)) (hcode : Cond.code y c2 n2 r2 ∈ tg_tbl) (hlink : Cond.methodLinkNest own index y host ∈ tg_nest) (hini : Cond.initialized y.cls ∈ tg_tbl) (hin : Cond.static y ∈ tg_tbl) (hd2 : y.cls ≠ "java/lang/invoke/MethodHandle" ∧ y.cls ≠ "java/lang/invoke/VarHandle" ∧ (parseMethodDescriptor y.desc).map (fun d => d.parameters.length) = some na) (hna : As.length = na) (hR : f2 + 1 ≤ R.frames ∧ 8 + (n2 + 11) + lo2 ≤ R.locals) (hst : (As.reverse ++ rest) = st) (hroom : (rest.map fun v => v.category).sum ≤ 8) (hcs : k ≤ R.cells ∧ n ≤ R.slots) (kk : V l G Z E R own nm cc nL ret pc2 lv (.int v0 :: rest) w1 k n) : V l G Z E R own nm cc nL ret pc lv st w k n := by
  refine V_callSN d hM hcode hlink hini hin hd2 hna hR hcs hst hroom (fun v w2 hq2 => ?_)
  obtain ⟨rfl, rfl⟩ := hq2
  exact kk
theorem V_callSNl {y : MethodName} {c2 : ByteArray} {n2 na index f2 lo2 : Nat} {r2 : Option FieldType} {As st : List Value} {w1 : va_W} {v0 : Int64} {host : String} (d : Dc cc pc (.invokestatic index) 3 pc2) (hM : Mt l G y c2 n2 r2 (tg_R f2 lo2) As w (fun v w2 => v = some (.long v0) ∧ w2 = w1)) (hcode : Cond.code y c2 n2 r2 ∈ tg_tbl) (hlink : Cond.methodLinkNest own index y host ∈ tg_nest) (hini : Cond.initialized y.cls ∈ tg_tbl) (hin : Cond.static y ∈ tg_tbl) (hd2 : y.cls ≠ "java/lang/invoke/MethodHandle" ∧ y.cls ≠ "java/lang/invoke/VarHandle" ∧ (parseMethodDescriptor y.desc).map (fun d => d.parameters.length) = some na) (hna : As.length = na) (hR : f2 + 1 ≤ R.frames ∧ 8 + (n2 + 11) + lo2 ≤ R.locals) (hst : (As.reverse ++ rest) = st) (hroom : (rest.map fun v => v.category).sum ≤ 8) (hcs : k ≤ R.cells ∧ n ≤ R.slots) (kk : V l G Z E R own nm cc nL ret pc2 lv (.long v0 :: rest) w1 k n) : V l G Z E R own nm cc nL ret pc lv st w k n := by
  refine V_callSN d hM hcode hlink hini hin hd2 hna hR hcs hst hroom (fun v w2 hq2 => ?_)
  obtain ⟨rfl, rfl⟩ := hq2
  exact kk
theorem V_callSNv {y : MethodName} {c2 : ByteArray} {n2 na index f2 lo2 : Nat} {r2 : Option FieldType} {As st : List Value} {w1 : va_W} {host : String} (d : Dc cc pc (.invokestatic index) 3 pc2) (hM : Mt l G y c2 n2 r2 (tg_R f2 lo2) As w (fun v w2 => v = none ∧ w2 = w1)) (hcode : Cond.code y c2 n2 r2 ∈ tg_tbl) (hlink : Cond.methodLinkNest own index y host ∈ tg_nest) (hini : Cond.initialized y.cls ∈ tg_tbl) (hin : Cond.static y ∈ tg_tbl) (hd2 : y.cls ≠ "java/lang/invoke/MethodHandle" ∧ y.cls ≠ "java/lang/invoke/VarHandle" ∧ (parseMethodDescriptor y.desc).map (fun d => d.parameters.length) = some na) (hna : As.length = na) (hR : f2 + 1 ≤ R.frames ∧ 8 + (n2 + 11) + lo2 ≤ R.locals) (hst : (As.reverse ++ rest) = st) (hroom : (rest.map fun v => v.category).sum ≤ 8) (hcs : k ≤ R.cells ∧ n ≤ R.slots) (kk : V l G Z E R own nm cc nL ret pc2 lv (rest) w1 k n) : V l G Z E R own nm cc nL ret pc lv st w k n := by
  refine V_callSN d hM hcode hlink hini hin hd2 hna hR hcs hst hroom (fun v w2 hq2 => ?_)
  obtain ⟨rfl, rfl⟩ := hq2
  exact kk
end TG2

abbrev mmin (x y : Int32) : Int32 := if y < x then y else x
abbrev mmax (x y : Int32) : Int32 := if x < y then y else x
abbrev mabs (x : Int32) : Int32 := if 0 ≤ x then x else 0 - x
section TG3
variable {l : Launch} {G : tg_G} {Z : tg_Z} {E : tg_E} {R : Room} {own nm : String} {cc : ByteArray} {nL : Nat} {ret : Option FieldType} {pc pc2 : Nat} {lv : List (Nat × Value)} {rest : List Value} {w : va_W} {k n : Nat}
theorem V_mmin {x y : Int32} {index : Nat} (d : Dc cc pc (.invokestatic index) 3 pc2) (hl1 : Cond.methodLink own index Lib.Math.min.name ∈ tg_tbl) (h2 : Cond.static Lib.Math.min.name ∈ tg_tbl) (h3 : Cond.initialized "java/lang/Math" ∈ tg_tbl) (h4 : Cond.code Lib.Math.min.name Lib.Math.min.code 2 (some .int) ∈ tg_tbl) (hf : 1 ≤ R.frames) (hR : (rest.map fun v => v.category).sum + 13 ≤ R.locals) (hcs : k ≤ R.cells ∧ n ≤ R.slots) (kk : V l G Z E R own nm cc nL ret pc2 lv (.int (mmin x y) :: rest) w k n) : V l G Z E R own nm cc nL ret pc lv (.int y :: .int x :: rest) w k n := by
  intro p e s m args below meth c A C H locs hP hD hS ls hl
  obtain ⟨hd, rfl⟩ := d
  have hts := C.2.2.2.2.2.1
  exact va_mmin C.1 C.2.1 (by rw [C.2.2.2.1]; exact hl.1.symm) C.2.2.2.2.1 (hts _ hl1) (hts _ h2) (hts _ h3) (hts _ h4) hf hR hcs.1 hcs.2 hd (kk p e s m args below meth c A C H locs hP hD hS ls hl)
theorem V_mmax {x y : Int32} {index : Nat} (d : Dc cc pc (.invokestatic index) 3 pc2) (hl1 : Cond.methodLink own index Lib.Math.max.name ∈ tg_tbl) (h2 : Cond.static Lib.Math.max.name ∈ tg_tbl) (h3 : Cond.initialized "java/lang/Math" ∈ tg_tbl) (h4 : Cond.code Lib.Math.max.name Lib.Math.max.code 2 (some .int) ∈ tg_tbl) (hf : 1 ≤ R.frames) (hR : (rest.map fun v => v.category).sum + 13 ≤ R.locals) (hcs : k ≤ R.cells ∧ n ≤ R.slots) (kk : V l G Z E R own nm cc nL ret pc2 lv (.int (mmax x y) :: rest) w k n) : V l G Z E R own nm cc nL ret pc lv (.int y :: .int x :: rest) w k n := by
  intro p e s m args below meth c A C H locs hP hD hS ls hl
  obtain ⟨hd, rfl⟩ := d
  have hts := C.2.2.2.2.2.1
  exact va_mmax C.1 C.2.1 (by rw [C.2.2.2.1]; exact hl.1.symm) C.2.2.2.2.1 (hts _ hl1) (hts _ h2) (hts _ h3) (hts _ h4) hf hR hcs.1 hcs.2 hd (kk p e s m args below meth c A C H locs hP hD hS ls hl)
theorem V_mabs {x : Int32} {index : Nat} (d : Dc cc pc (.invokestatic index) 3 pc2) (hl1 : Cond.methodLink own index Lib.Math.abs.name ∈ tg_tbl) (h2 : Cond.static Lib.Math.abs.name ∈ tg_tbl) (h3 : Cond.initialized "java/lang/Math" ∈ tg_tbl) (h4 : Cond.code Lib.Math.abs.name Lib.Math.abs.code 1 (some .int) ∈ tg_tbl) (hf : 1 ≤ R.frames) (hR : (rest.map fun v => v.category).sum + 13 ≤ R.locals) (hcs : k ≤ R.cells ∧ n ≤ R.slots) (kk : V l G Z E R own nm cc nL ret pc2 lv (.int (mabs x) :: rest) w k n) : V l G Z E R own nm cc nL ret pc lv (.int x :: rest) w k n := by
  intro p e s m args below meth c A C H locs hP hD hS ls hl
  obtain ⟨hd, rfl⟩ := d
  have hts := C.2.2.2.2.2.1
  exact va_mabs C.1 C.2.1 (by rw [C.2.2.2.1]; exact hl.1.symm) C.2.2.2.2.1 (hts _ hl1) (hts _ h2) (hts _ h3) (hts _ h4) hf hR hcs.1 hcs.2 hd (kk p e s m args below meth c A C H locs hP hD hS ls hl)
end TG3

def wC (G : tg_G) (A : Nat → Nat) (c : SS) : va_W := [(A 0, .inr (6, [.ref (A 1), .ref (A 3), .ref (A 28), .ref (A 11), .ref (A 13), .ref (A 18), .ref (A 21), .ref (A 26), .ref (A 27)])), (A 1, .inr (1, [.ref (A 2), .int (c.1 0)])), (A 2, .inl (G.2.1, 20, .inl (c.2 0))), (A 3, .inr (5, [.int (c.1 1), .int (c.1 2), .int (c.1 3), .int (c.1 4), .int (c.1 5), .int (c.1 6), .int (c.1 7), .int (c.1 8), .ref (A 4), .ref (A 5), .ref (A 6), .ref (A 7), .ref (A 8), .ref (A 9), .ref (A 10)])), (A 4, .inl (G.2.1, 6, .inl (c.2 1))), (A 5, .inl (G.2.1, 8, .inl (c.2 2))), (A 6, .inl (G.2.1, 8, .inl (c.2 3))), (A 7, .inl (G.2.1, 8, .inl (c.2 4))), (A 8, .inl (G.2.1, 8, .inl (c.2 5))), (A 9, .inl (G.2.1, 8, .inl (c.2 6))), (A 10, .inl (G.2.1, 8, .inl (c.2 7))), (A 11, .inr (4, [.ref (A 3), .ref (A 12)])), (A 12, .inl (G.2.1, 8, .inl (c.2 8))), (A 13, .inr (2, [.ref (A 3), .ref (A 11), .ref (A 14), .ref (A 15), .ref (A 16), .ref (A 17)])), (A 14, .inl (G.2.1, 66, .inl (c.2 9))), (A 15, .inl (G.2.1, 6, .inl (c.2 10))), (A 16, .inl (G.2.1, 77, .inl (c.2 11))), (A 17, .inl (G.2.1, 66, .inl (c.2 12))), (A 18, .inr (3, [.ref (A 3), .ref (A 13), .ref (A 19), .ref (A 20)])), (A 19, .inl (G.2.1, 70, .inl (c.2 13))), (A 20, .inl (G.2.1, 328, .inl (c.2 14))), (A 21, .inr (0, [.ref (A 3), .ref (A 11), .ref (A 22), .ref (A 23), .ref (A 24), .ref (A 25), .int (c.1 9), .int (c.1 10), .int (c.1 11)])), (A 22, .inl (G.2.1, 462, .inl (c.2 15))), (A 23, .inl (G.2.1, 462, .inl (c.2 16))), (A 24, .inl (G.2.1, 6, .inl (c.2 17))), (A 25, .inl (G.2.1, 6, .inl (c.2 18))), (A 26, .inl (G.2.1, 6, .inl (c.2 19))), (A 27, .inl (G.2.1, 6, .inl (c.2 20)))]
def wM (G : tg_G) (A : Nat → Nat) (c : SS) : va_W := [(A 0, .inr (7, [.int (c.1 0), .ref (A 1), .int (c.1 2), .int (c.1 3), .ref (A 2), .ref (A 3), .ref (A 4), .ref (A 5), .ref (A 6), .ref (A 7), .int (c.1 10), .int (c.1 11), .ref (A 8), .ref (A 9), .int (c.1 14), .ref (A 10), .int (c.1 16), .ref (A 11), .ref (A 12), .int (c.1 19), .int (c.1 20), .ref (A 13), .ref (A 14), .ref (A 15), .ref (A 16), .ref (A 17), .int (c.1 26), .ref (A 18), .ref (A 19), .int (c.1 29), .int (c.1 30)])), (A 1, .inl (G.2.1, 6, .inl (c.2 1))), (A 2, .inl (G.2.1, 8, .inl (c.2 4))), (A 3, .inl (G.2.1, 8, .inl (c.2 5))), (A 4, .inl (G.2.1, 8, .inl (c.2 6))), (A 5, .inl (G.2.1, 8, .inl (c.2 7))), (A 6, .inl (G.2.1, 8, .inl (c.2 8))), (A 7, .inl (G.2.1, 8, .inl (c.2 9))), (A 8, .inl (G.2.1, 8, .inl (c.2 12))), (A 9, .inl (G.2.1, 8, .inl (c.2 13))), (A 10, .inl (G.2.1, 20, .inl (c.2 15))), (A 11, .inl (G.2.1, 6, .inl (c.2 17))), (A 12, .inl (G.2.1, 6, .inl (c.2 18))), (A 13, .inl (G.2.1, 6, .inl (c.2 21))), (A 14, .inl (G.2.1, 70, .inl (c.2 22))), (A 15, .inl (G.2.1, 328, .inl (c.2 23))), (A 16, .inl (G.2.1, 186624, .inl (c.2 24))), (A 17, .inl (G.2.1, 186624, .inl (c.2 25))), (A 18, .inl (G.2.1, 180, .inl (c.2 27))), (A 19, .inl (G.2.2.1, 2, .inl (c.2 28)))]
