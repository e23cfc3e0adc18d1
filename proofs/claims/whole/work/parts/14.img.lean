section TG5
variable {l : Launch} {G : tg_G} {Z : tg_Z} {E : tg_E} {R : Room} {own nm : String} {cc : ByteArray} {nL : Nat} {ret : Option FieldType} {pc pc2 : Nat} {lv : List (Nat × Value)} {rest : List Value} {w : va_W} {k n : Nat}
theorem V_astore_nN {z : Fin 4} {lv' : List (Nat × Value)} (d : Dc cc pc (.astore_n z) 1 pc2) (hn : (z : Nat) < nL) (hl' : ((z : Nat), Value.null) :: lv.filter (fun q => !(q.1 == (z : Nat)) && !(q.1 + 1 == (z : Nat) && q.2.category == 2)) = lv') (kk : V l G Z E R own nm cc nL ret pc2 lv' rest w k n) : V l G Z E R own nm cc nL ret pc lv (.null :: rest) w k n := by
  intro p e s m args below meth c A C H locs hP hD hS ls hl
  obtain ⟨hd, rfl⟩ := d
  exact lv_astore_nN C.1 C.2.1 hd rfl hl hn hl' (fun ls' hl2 => kk p e s m args below meth c A C H locs hP hD hS ls' hl2)
theorem V_aload_nN {z : Fin 4} (d : Dc cc pc (.aload_n z) 1 pc2) (j : Nat) (hj : lv[j]? = some ((z : Nat), .null)) (kk : V l G Z E R own nm cc nL ret pc2 lv (.null :: rest) w k n) : V l G Z E R own nm cc nL ret pc lv rest w k n := by
  intro p e s m args below meth c A C H locs hP hD hS ls hl
  obtain ⟨hd, rfl⟩ := d
  exact lv_aload_nN C.1 C.2.1 hd rfl (lv_at hl j hj) (kk p e s m args below meth c A C H locs hP hD hS ls hl)
end TG5
/-- a World and its rows -/
def wW (G : tg_G) (B : Nat → Nat) (i : SS) : va_W := [((B 0), .inr (5, [.int (i.1 1), .int (i.1 2), .int (i.1 3), .int (i.1 4), .int (i.1 5), .int (i.1 6), .int (i.1 7), .int (i.1 8), .ref (B 1), .ref (B 2), .ref (B 3), .ref (B 4), .ref (B 5), .ref (B 6), .ref (B 7)])), ((B 1), .inl (G.2.1, 6, .inl (i.2 1))), ((B 2), .inl (G.2.1, 8, .inl (i.2 2))), ((B 3), .inl (G.2.1, 8, .inl (i.2 3))), ((B 4), .inl (G.2.1, 8, .inl (i.2 4))), ((B 5), .inl (G.2.1, 8, .inl (i.2 5))), ((B 6), .inl (G.2.1, 8, .inl (i.2 6))), ((B 7), .inl (G.2.1, 8, .inl (i.2 7)))]
/-- a World behind copyFrom -/
def cpW (i j : SS) : SS := (fun k => j.1 k, fun k => va_cpy (j.2 k) (i.2 k) 0 0 (if k = 1 then 6 else 8))
/-- the images: address and state, where one is kept -/
abbrev tg_I : Type := Option ((Nat → Nat) × SS)
def wIc (G : tg_G) (i : tg_I) : va_W := match i with
  | none => []
  | some q => wW G q.1 q.2
def wIr (i0 i1 : tg_I) : Nat → Option Nat := fun k => if k = 0 then i0.map (fun q => q.1 0) else if k = 1 then i1.map (fun q => q.1 0) else none
def tg_ini : SS := (fun k => if k = 1 then 3 else if k = 3 then 4 else if k = 4 then 9 else 0, fun k => if k = 1 then (upd (upd (upd (upd (upd (upd (fun _ => 0) 0 5) 1 5) 2 5) 3 0) 4 0) 5 0) else fun _ => 0)
section TG6
variable {l : Launch} {G : tg_G} {Z : tg_Z} {E : tg_E} {R : Room} {own nm : String} {cc : ByteArray} {nL : Nat} {ret : Option FieldType} {pc pc2 : Nat} {lv : List (Nat × Value)} {st : List Value} {w : va_W} {k n : Nat}
theorem V_weq {w' : va_W} (h : w = w') (kk : V l G Z E R own nm cc nL ret pc lv st w' k n) : V l G Z E R own nm cc nL ret pc lv st w k n := h ▸ kk
theorem V_steq {st' : List Value} (h : st = st') (kk : V l G Z E R own nm cc nL ret pc lv st' w k n) : V l G Z E R own nm cc nL ret pc lv st w k n := h ▸ kk
end TG6
theorem hdX5_copyFrom : yX5_copyFrom.cls ≠ "java/lang/invoke/MethodHandle" ∧ yX5_copyFrom.cls ≠ "java/lang/invoke/VarHandle" ∧ (parseMethodDescriptor yX5_copyFrom.desc).map (fun d => d.parameters.length) = some 1 := by decide +kernel
theorem eX5_copyFrom_0 : Dc cX5_copyFrom 0 (.aload_n 0) 1 1 := ⟨by decide +kernel, rfl⟩
theorem eX5_copyFrom_1 : Dc cX5_copyFrom 1 (.aload_n 1) 1 2 := ⟨by decide +kernel, rfl⟩
theorem eX5_copyFrom_2 : Dc cX5_copyFrom 2 (.getfield 9) 3 5 := ⟨by decide +kernel, rfl⟩
theorem eX5_copyFrom_5 : Dc cX5_copyFrom 5 (.putfield 9) 3 8 := ⟨by decide +kernel, rfl⟩
theorem eX5_copyFrom_8 : Dc cX5_copyFrom 8 (.aload_n 0) 1 9 := ⟨by decide +kernel, rfl⟩
theorem eX5_copyFrom_9 : Dc cX5_copyFrom 9 (.aload_n 1) 1 10 := ⟨by decide +kernel, rfl⟩
theorem eX5_copyFrom_10 : Dc cX5_copyFrom 10 (.getfield 43) 3 13 := ⟨by decide +kernel, rfl⟩
theorem eX5_copyFrom_13 : Dc cX5_copyFrom 13 (.putfield 43) 3 16 := ⟨by decide +kernel, rfl⟩
theorem eX5_copyFrom_16 : Dc cX5_copyFrom 16 (.aload_n 0) 1 17 := ⟨by decide +kernel, rfl⟩
theorem eX5_copyFrom_17 : Dc cX5_copyFrom 17 (.aload_n 1) 1 18 := ⟨by decide +kernel, rfl⟩
theorem eX5_copyFrom_18 : Dc cX5_copyFrom 18 (.getfield 15) 3 21 := ⟨by decide +kernel, rfl⟩
theorem eX5_copyFrom_21 : Dc cX5_copyFrom 21 (.putfield 15) 3 24 := ⟨by decide +kernel, rfl⟩
theorem eX5_copyFrom_24 : Dc cX5_copyFrom 24 (.aload_n 0) 1 25 := ⟨by decide +kernel, rfl⟩
theorem eX5_copyFrom_25 : Dc cX5_copyFrom 25 (.aload_n 1) 1 26 := ⟨by decide +kernel, rfl⟩
theorem eX5_copyFrom_26 : Dc cX5_copyFrom 26 (.getfield 18) 3 29 := ⟨by decide +kernel, rfl⟩
theorem eX5_copyFrom_29 : Dc cX5_copyFrom 29 (.putfield 18) 3 32 := ⟨by decide +kernel, rfl⟩
theorem eX5_copyFrom_32 : Dc cX5_copyFrom 32 (.aload_n 0) 1 33 := ⟨by decide +kernel, rfl⟩
theorem eX5_copyFrom_33 : Dc cX5_copyFrom 33 (.aload_n 1) 1 34 := ⟨by decide +kernel, rfl⟩
theorem eX5_copyFrom_34 : Dc cX5_copyFrom 34 (.getfield 46) 3 37 := ⟨by decide +kernel, rfl⟩
theorem eX5_copyFrom_37 : Dc cX5_copyFrom 37 (.putfield 46) 3 40 := ⟨by decide +kernel, rfl⟩
theorem eX5_copyFrom_40 : Dc cX5_copyFrom 40 (.aload_n 0) 1 41 := ⟨by decide +kernel, rfl⟩
theorem eX5_copyFrom_41 : Dc cX5_copyFrom 41 (.aload_n 1) 1 42 := ⟨by decide +kernel, rfl⟩
theorem eX5_copyFrom_42 : Dc cX5_copyFrom 42 (.getfield 49) 3 45 := ⟨by decide +kernel, rfl⟩
theorem eX5_copyFrom_45 : Dc cX5_copyFrom 45 (.putfield 49) 3 48 := ⟨by decide +kernel, rfl⟩
theorem eX5_copyFrom_48 : Dc cX5_copyFrom 48 (.aload_n 0) 1 49 := ⟨by decide +kernel, rfl⟩
theorem eX5_copyFrom_49 : Dc cX5_copyFrom 49 (.aload_n 1) 1 50 := ⟨by decide +kernel, rfl⟩
theorem eX5_copyFrom_50 : Dc cX5_copyFrom 50 (.getfield 52) 3 53 := ⟨by decide +kernel, rfl⟩
theorem eX5_copyFrom_53 : Dc cX5_copyFrom 53 (.putfield 52) 3 56 := ⟨by decide +kernel, rfl⟩
theorem eX5_copyFrom_56 : Dc cX5_copyFrom 56 (.aload_n 0) 1 57 := ⟨by decide +kernel, rfl⟩
theorem eX5_copyFrom_57 : Dc cX5_copyFrom 57 (.aload_n 1) 1 58 := ⟨by decide +kernel, rfl⟩
theorem eX5_copyFrom_58 : Dc cX5_copyFrom 58 (.getfield 55) 3 61 := ⟨by decide +kernel, rfl⟩
theorem eX5_copyFrom_61 : Dc cX5_copyFrom 61 (.putfield 55) 3 64 := ⟨by decide +kernel, rfl⟩
theorem eX5_copyFrom_64 : Dc cX5_copyFrom 64 (.aload_n 1) 1 65 := ⟨by decide +kernel, rfl⟩
theorem eX5_copyFrom_65 : Dc cX5_copyFrom 65 (.getfield 21) 3 68 := ⟨by decide +kernel, rfl⟩
theorem eX5_copyFrom_68 : Dc cX5_copyFrom 68 (.iconst 0) 1 69 := ⟨by decide +kernel, rfl⟩
theorem eX5_copyFrom_69 : Dc cX5_copyFrom 69 (.aload_n 0) 1 70 := ⟨by decide +kernel, rfl⟩
theorem eX5_copyFrom_70 : Dc cX5_copyFrom 70 (.getfield 21) 3 73 := ⟨by decide +kernel, rfl⟩
theorem eX5_copyFrom_73 : Dc cX5_copyFrom 73 (.iconst 0) 1 74 := ⟨by decide +kernel, rfl⟩
theorem eX5_copyFrom_74 : Dc cX5_copyFrom 74 (.bipush 6) 2 76 := ⟨by decide +kernel, rfl⟩
theorem eX5_copyFrom_76 : Dc cX5_copyFrom 76 (.invokestatic 58) 3 79 := ⟨by decide +kernel, rfl⟩
theorem eX5_copyFrom_79 : Dc cX5_copyFrom 79 (.aload_n 1) 1 80 := ⟨by decide +kernel, rfl⟩
theorem eX5_copyFrom_80 : Dc cX5_copyFrom 80 (.getfield 25) 3 83 := ⟨by decide +kernel, rfl⟩
theorem eX5_copyFrom_83 : Dc cX5_copyFrom 83 (.iconst 0) 1 84 := ⟨by decide +kernel, rfl⟩
theorem eX5_copyFrom_84 : Dc cX5_copyFrom 84 (.aload_n 0) 1 85 := ⟨by decide +kernel, rfl⟩
theorem eX5_copyFrom_85 : Dc cX5_copyFrom 85 (.getfield 25) 3 88 := ⟨by decide +kernel, rfl⟩
theorem eX5_copyFrom_88 : Dc cX5_copyFrom 88 (.iconst 0) 1 89 := ⟨by decide +kernel, rfl⟩
theorem eX5_copyFrom_89 : Dc cX5_copyFrom 89 (.bipush 8) 2 91 := ⟨by decide +kernel, rfl⟩
theorem eX5_copyFrom_91 : Dc cX5_copyFrom 91 (.invokestatic 58) 3 94 := ⟨by decide +kernel, rfl⟩
theorem eX5_copyFrom_94 : Dc cX5_copyFrom 94 (.aload_n 1) 1 95 := ⟨by decide +kernel, rfl⟩
theorem eX5_copyFrom_95 : Dc cX5_copyFrom 95 (.getfield 28) 3 98 := ⟨by decide +kernel, rfl⟩
theorem eX5_copyFrom_98 : Dc cX5_copyFrom 98 (.iconst 0) 1 99 := ⟨by decide +kernel, rfl⟩
theorem eX5_copyFrom_99 : Dc cX5_copyFrom 99 (.aload_n 0) 1 100 := ⟨by decide +kernel, rfl⟩
theorem eX5_copyFrom_100 : Dc cX5_copyFrom 100 (.getfield 28) 3 103 := ⟨by decide +kernel, rfl⟩
theorem eX5_copyFrom_103 : Dc cX5_copyFrom 103 (.iconst 0) 1 104 := ⟨by decide +kernel, rfl⟩
theorem eX5_copyFrom_104 : Dc cX5_copyFrom 104 (.bipush 8) 2 106 := ⟨by decide +kernel, rfl⟩
theorem eX5_copyFrom_106 : Dc cX5_copyFrom 106 (.invokestatic 58) 3 109 := ⟨by decide +kernel, rfl⟩
theorem eX5_copyFrom_109 : Dc cX5_copyFrom 109 (.aload_n 1) 1 110 := ⟨by decide +kernel, rfl⟩
theorem eX5_copyFrom_110 : Dc cX5_copyFrom 110 (.getfield 31) 3 113 := ⟨by decide +kernel, rfl⟩
theorem eX5_copyFrom_113 : Dc cX5_copyFrom 113 (.iconst 0) 1 114 := ⟨by decide +kernel, rfl⟩
theorem eX5_copyFrom_114 : Dc cX5_copyFrom 114 (.aload_n 0) 1 115 := ⟨by decide +kernel, rfl⟩
theorem eX5_copyFrom_115 : Dc cX5_copyFrom 115 (.getfield 31) 3 118 := ⟨by decide +kernel, rfl⟩
theorem eX5_copyFrom_118 : Dc cX5_copyFrom 118 (.iconst 0) 1 119 := ⟨by decide +kernel, rfl⟩
theorem eX5_copyFrom_119 : Dc cX5_copyFrom 119 (.bipush 8) 2 121 := ⟨by decide +kernel, rfl⟩
theorem eX5_copyFrom_121 : Dc cX5_copyFrom 121 (.invokestatic 58) 3 124 := ⟨by decide +kernel, rfl⟩
theorem eX5_copyFrom_124 : Dc cX5_copyFrom 124 (.aload_n 1) 1 125 := ⟨by decide +kernel, rfl⟩
theorem eX5_copyFrom_125 : Dc cX5_copyFrom 125 (.getfield 34) 3 128 := ⟨by decide +kernel, rfl⟩
theorem eX5_copyFrom_128 : Dc cX5_copyFrom 128 (.iconst 0) 1 129 := ⟨by decide +kernel, rfl⟩
theorem eX5_copyFrom_129 : Dc cX5_copyFrom 129 (.aload_n 0) 1 130 := ⟨by decide +kernel, rfl⟩
theorem eX5_copyFrom_130 : Dc cX5_copyFrom 130 (.getfield 34) 3 133 := ⟨by decide +kernel, rfl⟩
theorem eX5_copyFrom_133 : Dc cX5_copyFrom 133 (.iconst 0) 1 134 := ⟨by decide +kernel, rfl⟩
theorem eX5_copyFrom_134 : Dc cX5_copyFrom 134 (.bipush 8) 2 136 := ⟨by decide +kernel, rfl⟩
theorem eX5_copyFrom_136 : Dc cX5_copyFrom 136 (.invokestatic 58) 3 139 := ⟨by decide +kernel, rfl⟩
theorem eX5_copyFrom_139 : Dc cX5_copyFrom 139 (.aload_n 1) 1 140 := ⟨by decide +kernel, rfl⟩
theorem eX5_copyFrom_140 : Dc cX5_copyFrom 140 (.getfield 37) 3 143 := ⟨by decide +kernel, rfl⟩
theorem eX5_copyFrom_143 : Dc cX5_copyFrom 143 (.iconst 0) 1 144 := ⟨by decide +kernel, rfl⟩
theorem eX5_copyFrom_144 : Dc cX5_copyFrom 144 (.aload_n 0) 1 145 := ⟨by decide +kernel, rfl⟩
theorem eX5_copyFrom_145 : Dc cX5_copyFrom 145 (.getfield 37) 3 148 := ⟨by decide +kernel, rfl⟩
theorem eX5_copyFrom_148 : Dc cX5_copyFrom 148 (.iconst 0) 1 149 := ⟨by decide +kernel, rfl⟩
theorem eX5_copyFrom_149 : Dc cX5_copyFrom 149 (.bipush 8) 2 151 := ⟨by decide +kernel, rfl⟩
theorem eX5_copyFrom_151 : Dc cX5_copyFrom 151 (.invokestatic 58) 3 154 := ⟨by decide +kernel, rfl⟩
theorem eX5_copyFrom_154 : Dc cX5_copyFrom 154 (.aload_n 1) 1 155 := ⟨by decide +kernel, rfl⟩
theorem eX5_copyFrom_155 : Dc cX5_copyFrom 155 (.getfield 40) 3 158 := ⟨by decide +kernel, rfl⟩
theorem eX5_copyFrom_158 : Dc cX5_copyFrom 158 (.iconst 0) 1 159 := ⟨by decide +kernel, rfl⟩
theorem eX5_copyFrom_159 : Dc cX5_copyFrom 159 (.aload_n 0) 1 160 := ⟨by decide +kernel, rfl⟩
theorem eX5_copyFrom_160 : Dc cX5_copyFrom 160 (.getfield 40) 3 163 := ⟨by decide +kernel, rfl⟩
theorem eX5_copyFrom_163 : Dc cX5_copyFrom 163 (.iconst 0) 1 164 := ⟨by decide +kernel, rfl⟩
theorem eX5_copyFrom_164 : Dc cX5_copyFrom 164 (.bipush 8) 2 166 := ⟨by decide +kernel, rfl⟩
theorem eX5_copyFrom_166 : Dc cX5_copyFrom 166 (.invokestatic 58) 3 169 := ⟨by decide +kernel, rfl⟩
theorem eX5_copyFrom_169 : Dc cX5_copyFrom 169 (.return_) 1 170 := ⟨by decide +kernel, rfl⟩
theorem hdX6_image : yX6_image.cls ≠ "java/lang/invoke/MethodHandle" ∧ yX6_image.cls ≠ "java/lang/invoke/VarHandle" ∧ (parseMethodDescriptor yX6_image.desc).map (fun d => d.parameters.length) = some 1 := by decide +kernel
theorem eX6_image_0 : Dc cX6_image 0 (.iload_n 1) 1 1 := ⟨by decide +kernel, rfl⟩
theorem eX6_image_1 : Dc cX6_image 1 (.iconst 0) 1 2 := ⟨by decide +kernel, rfl⟩
theorem eX6_image_2 : Dc cX6_image 2 (.iconst 1) 1 3 := ⟨by decide +kernel, rfl⟩
theorem eX6_image_3 : Dc cX6_image 3 (.invokestatic 68) 3 6 := ⟨by decide +kernel, rfl⟩
theorem eX6_image_6 : Dc cX6_image 6 (.ifCond .ne 6) 3 9 := ⟨by decide +kernel, rfl⟩
theorem eX6_image_9 : Dc cX6_image 9 (.bipush (-2)) 2 11 := ⟨by decide +kernel, rfl⟩
theorem eX6_image_11 : Dc cX6_image 11 (.ireturn) 1 12 := ⟨by decide +kernel, rfl⟩
theorem eX6_image_12 : Dc cX6_image 12 (.aload_n 0) 1 13 := ⟨by decide +kernel, rfl⟩
theorem eX6_image_13 : Dc cX6_image 13 (.getfield 23) 3 16 := ⟨by decide +kernel, rfl⟩
theorem eX6_image_16 : Dc cX6_image 16 (.iload_n 1) 1 17 := ⟨by decide +kernel, rfl⟩
theorem eX6_image_17 : Dc cX6_image 17 (.aaload) 1 18 := ⟨by decide +kernel, rfl⟩
theorem eX6_image_18 : Dc cX6_image 18 (.astore_n 2) 1 19 := ⟨by decide +kernel, rfl⟩
theorem eX6_image_19 : Dc cX6_image 19 (.aload_n 2) 1 20 := ⟨by decide +kernel, rfl⟩
theorem eX6_image_20 : Dc cX6_image 20 (.ifnonnull 18) 3 23 := ⟨by decide +kernel, rfl⟩
theorem eX6_image_23 : Dc cX6_image 23 (.new 16) 3 26 := ⟨by decide +kernel, rfl⟩
theorem eX6_image_26 : Dc cX6_image 26 (.dup) 1 27 := ⟨by decide +kernel, rfl⟩
theorem eX6_image_27 : Dc cX6_image 27 (.invokespecial 18) 3 30 := ⟨by decide +kernel, rfl⟩
theorem eX6_image_30 : Dc cX6_image 30 (.astore_n 2) 1 31 := ⟨by decide +kernel, rfl⟩
theorem eX6_image_31 : Dc cX6_image 31 (.aload_n 0) 1 32 := ⟨by decide +kernel, rfl⟩
theorem eX6_image_32 : Dc cX6_image 32 (.getfield 23) 3 35 := ⟨by decide +kernel, rfl⟩
theorem eX6_image_35 : Dc cX6_image 35 (.iload_n 1) 1 36 := ⟨by decide +kernel, rfl⟩
theorem eX6_image_36 : Dc cX6_image 36 (.aload_n 2) 1 37 := ⟨by decide +kernel, rfl⟩
theorem eX6_image_37 : Dc cX6_image 37 (.aastore) 1 38 := ⟨by decide +kernel, rfl⟩
theorem eX6_image_38 : Dc cX6_image 38 (.aload_n 2) 1 39 := ⟨by decide +kernel, rfl⟩
theorem eX6_image_39 : Dc cX6_image 39 (.aload_n 0) 1 40 := ⟨by decide +kernel, rfl⟩
theorem eX6_image_40 : Dc cX6_image 40 (.getfield 19) 3 43 := ⟨by decide +kernel, rfl⟩
theorem eX6_image_43 : Dc cX6_image 43 (.invokevirtual 272) 3 46 := ⟨by decide +kernel, rfl⟩
theorem eX6_image_46 : Dc cX6_image 46 (.iconst 1) 1 47 := ⟨by decide +kernel, rfl⟩
theorem eX6_image_47 : Dc cX6_image 47 (.ireturn) 1 48 := ⟨by decide +kernel, rfl⟩
theorem hdX6_restore : yX6_restore.cls ≠ "java/lang/invoke/MethodHandle" ∧ yX6_restore.cls ≠ "java/lang/invoke/VarHandle" ∧ (parseMethodDescriptor yX6_restore.desc).map (fun d => d.parameters.length) = some 1 := by decide +kernel
theorem eX6_restore_0 : Dc cX6_restore 0 (.iload_n 1) 1 1 := ⟨by decide +kernel, rfl⟩
theorem eX6_restore_1 : Dc cX6_restore 1 (.iconst 0) 1 2 := ⟨by decide +kernel, rfl⟩
theorem eX6_restore_2 : Dc cX6_restore 2 (.iconst 1) 1 3 := ⟨by decide +kernel, rfl⟩
theorem eX6_restore_3 : Dc cX6_restore 3 (.invokestatic 68) 3 6 := ⟨by decide +kernel, rfl⟩
theorem eX6_restore_6 : Dc cX6_restore 6 (.ifCond .ne 6) 3 9 := ⟨by decide +kernel, rfl⟩
theorem eX6_restore_9 : Dc cX6_restore 9 (.bipush (-2)) 2 11 := ⟨by decide +kernel, rfl⟩
theorem eX6_restore_11 : Dc cX6_restore 11 (.ireturn) 1 12 := ⟨by decide +kernel, rfl⟩
theorem eX6_restore_12 : Dc cX6_restore 12 (.aload_n 0) 1 13 := ⟨by decide +kernel, rfl⟩
theorem eX6_restore_13 : Dc cX6_restore 13 (.getfield 23) 3 16 := ⟨by decide +kernel, rfl⟩
theorem eX6_restore_16 : Dc cX6_restore 16 (.iload_n 1) 1 17 := ⟨by decide +kernel, rfl⟩
theorem eX6_restore_17 : Dc cX6_restore 17 (.aaload) 1 18 := ⟨by decide +kernel, rfl⟩
theorem eX6_restore_18 : Dc cX6_restore 18 (.astore_n 2) 1 19 := ⟨by decide +kernel, rfl⟩
theorem eX6_restore_19 : Dc cX6_restore 19 (.aload_n 2) 1 20 := ⟨by decide +kernel, rfl⟩
theorem eX6_restore_20 : Dc cX6_restore 20 (.ifnonnull 6) 3 23 := ⟨by decide +kernel, rfl⟩
theorem eX6_restore_23 : Dc cX6_restore 23 (.bipush (-3)) 2 25 := ⟨by decide +kernel, rfl⟩
theorem eX6_restore_25 : Dc cX6_restore 25 (.ireturn) 1 26 := ⟨by decide +kernel, rfl⟩
theorem eX6_restore_26 : Dc cX6_restore 26 (.aload_n 0) 1 27 := ⟨by decide +kernel, rfl⟩
theorem eX6_restore_27 : Dc cX6_restore 27 (.getfield 19) 3 30 := ⟨by decide +kernel, rfl⟩
theorem eX6_restore_30 : Dc cX6_restore 30 (.aload_n 2) 1 31 := ⟨by decide +kernel, rfl⟩
theorem eX6_restore_31 : Dc cX6_restore 31 (.invokevirtual 272) 3 34 := ⟨by decide +kernel, rfl⟩
theorem eX6_restore_34 : Dc cX6_restore 34 (.iconst 1) 1 35 := ⟨by decide +kernel, rfl⟩
theorem eX6_restore_35 : Dc cX6_restore 35 (.ireturn) 1 36 := ⟨by decide +kernel, rfl⟩
set_option maxRecDepth 20000 in
theorem kt_copyFrom (l : Launch) (G : tg_G) (B D : Nat → Nat) (i j : SS) : Mt l G yX5_copyFrom cX5_copyFrom 2 none (tg_R 1 60) [.ref (B 0), .ref (D 0)] (wW G B i ++ wW G D j) (fun v w1 => v = none ∧ w1 = wW G B (cpW i j) ++ wW G D j) := by
  refine Mt_of2 (own := "TramGod$World") (nm := "copyFrom") rfl rfl rfl (Nat.le_of_ble_eq_true rfl) (lv := [(0, .ref (B 0)), (1, .ref (D 0))]) rfl ?_
  refine V_aload_n eX5_copyFrom_0 0 rfl ?_
  refine V_aload_n eX5_copyFrom_1 1 rfl ?_
  refine V_get (v := .int (j.1 1)) eX5_copyFrom_2 inX5 8 rfl rfl 0 (Nat.le_of_ble_eq_true rfl) tw_42 rfl ?_
  refine V_put (w' := [((B 0), .inr (5, [.int (j.1 1), .int (i.1 2), .int (i.1 3), .int (i.1 4), .int (i.1 5), .int (i.1 6), .int (i.1 7), .int (i.1 8), .ref (B 1), .ref (B 2), .ref (B 3), .ref (B 4), .ref (B 5), .ref (B 6), .ref (B 7)])), ((B 1), .inl (G.2.1, 6, .inl (i.2 1))), ((B 2), .inl (G.2.1, 8, .inl (i.2 2))), ((B 3), .inl (G.2.1, 8, .inl (i.2 3))), ((B 4), .inl (G.2.1, 8, .inl (i.2 4))), ((B 5), .inl (G.2.1, 8, .inl (i.2 5))), ((B 6), .inl (G.2.1, 8, .inl (i.2 6))), ((B 7), .inl (G.2.1, 8, .inl (i.2 7))), ((D 0), .inr (5, [.int (j.1 1), .int (j.1 2), .int (j.1 3), .int (j.1 4), .int (j.1 5), .int (j.1 6), .int (j.1 7), .int (j.1 8), .ref (D 1), .ref (D 2), .ref (D 3), .ref (D 4), .ref (D 5), .ref (D 6), .ref (D 7)])), ((D 1), .inl (G.2.1, 6, .inl (j.2 1))), ((D 2), .inl (G.2.1, 8, .inl (j.2 2))), ((D 3), .inl (G.2.1, 8, .inl (j.2 3))), ((D 4), .inl (G.2.1, 8, .inl (j.2 4))), ((D 5), .inl (G.2.1, 8, .inl (j.2 5))), ((D 6), .inl (G.2.1, 8, .inl (j.2 6))), ((D 7), .inl (G.2.1, 8, .inl (j.2 7)))]) eX5_copyFrom_5 inX5 tyX5 tyX5_ok nmX5 0 rfl rfl 0 (Nat.le_of_ble_eq_true rfl) tw_42 rfl rfl rfl rfl (Nat.le_of_ble_eq_true rfl) rfl ?_
  refine V_aload_n eX5_copyFrom_8 0 rfl ?_
  refine V_aload_n eX5_copyFrom_9 1 rfl ?_
  refine V_get (v := .int (j.1 2)) eX5_copyFrom_10 inX5 8 rfl rfl 1 (Nat.le_of_ble_eq_true rfl) tw_46 rfl ?_
  refine V_put (w' := [((B 0), .inr (5, [.int (j.1 1), .int (j.1 2), .int (i.1 3), .int (i.1 4), .int (i.1 5), .int (i.1 6), .int (i.1 7), .int (i.1 8), .ref (B 1), .ref (B 2), .ref (B 3), .ref (B 4), .ref (B 5), .ref (B 6), .ref (B 7)])), ((B 1), .inl (G.2.1, 6, .inl (i.2 1))), ((B 2), .inl (G.2.1, 8, .inl (i.2 2))), ((B 3), .inl (G.2.1, 8, .inl (i.2 3))), ((B 4), .inl (G.2.1, 8, .inl (i.2 4))), ((B 5), .inl (G.2.1, 8, .inl (i.2 5))), ((B 6), .inl (G.2.1, 8, .inl (i.2 6))), ((B 7), .inl (G.2.1, 8, .inl (i.2 7))), ((D 0), .inr (5, [.int (j.1 1), .int (j.1 2), .int (j.1 3), .int (j.1 4), .int (j.1 5), .int (j.1 6), .int (j.1 7), .int (j.1 8), .ref (D 1), .ref (D 2), .ref (D 3), .ref (D 4), .ref (D 5), .ref (D 6), .ref (D 7)])), ((D 1), .inl (G.2.1, 6, .inl (j.2 1))), ((D 2), .inl (G.2.1, 8, .inl (j.2 2))), ((D 3), .inl (G.2.1, 8, .inl (j.2 3))), ((D 4), .inl (G.2.1, 8, .inl (j.2 4))), ((D 5), .inl (G.2.1, 8, .inl (j.2 5))), ((D 6), .inl (G.2.1, 8, .inl (j.2 6))), ((D 7), .inl (G.2.1, 8, .inl (j.2 7)))]) eX5_copyFrom_13 inX5 tyX5 tyX5_ok nmX5 0 rfl rfl 1 (Nat.le_of_ble_eq_true rfl) tw_46 rfl rfl rfl rfl (Nat.le_of_ble_eq_true rfl) rfl ?_
  refine V_aload_n eX5_copyFrom_16 0 rfl ?_
  refine V_aload_n eX5_copyFrom_17 1 rfl ?_
  refine V_get (v := .int (j.1 3)) eX5_copyFrom_18 inX5 8 rfl rfl 2 (Nat.le_of_ble_eq_true rfl) tw_48 rfl ?_
  refine V_put (w' := [((B 0), .inr (5, [.int (j.1 1), .int (j.1 2), .int (j.1 3), .int (i.1 4), .int (i.1 5), .int (i.1 6), .int (i.1 7), .int (i.1 8), .ref (B 1), .ref (B 2), .ref (B 3), .ref (B 4), .ref (B 5), .ref (B 6), .ref (B 7)])), ((B 1), .inl (G.2.1, 6, .inl (i.2 1))), ((B 2), .inl (G.2.1, 8, .inl (i.2 2))), ((B 3), .inl (G.2.1, 8, .inl (i.2 3))), ((B 4), .inl (G.2.1, 8, .inl (i.2 4))), ((B 5), .inl (G.2.1, 8, .inl (i.2 5))), ((B 6), .inl (G.2.1, 8, .inl (i.2 6))), ((B 7), .inl (G.2.1, 8, .inl (i.2 7))), ((D 0), .inr (5, [.int (j.1 1), .int (j.1 2), .int (j.1 3), .int (j.1 4), .int (j.1 5), .int (j.1 6), .int (j.1 7), .int (j.1 8), .ref (D 1), .ref (D 2), .ref (D 3), .ref (D 4), .ref (D 5), .ref (D 6), .ref (D 7)])), ((D 1), .inl (G.2.1, 6, .inl (j.2 1))), ((D 2), .inl (G.2.1, 8, .inl (j.2 2))), ((D 3), .inl (G.2.1, 8, .inl (j.2 3))), ((D 4), .inl (G.2.1, 8, .inl (j.2 4))), ((D 5), .inl (G.2.1, 8, .inl (j.2 5))), ((D 6), .inl (G.2.1, 8, .inl (j.2 6))), ((D 7), .inl (G.2.1, 8, .inl (j.2 7)))]) eX5_copyFrom_21 inX5 tyX5 tyX5_ok nmX5 0 rfl rfl 2 (Nat.le_of_ble_eq_true rfl) tw_48 rfl rfl rfl rfl (Nat.le_of_ble_eq_true rfl) rfl ?_
  refine V_aload_n eX5_copyFrom_24 0 rfl ?_
  refine V_aload_n eX5_copyFrom_25 1 rfl ?_
  refine V_get (v := .int (j.1 4)) eX5_copyFrom_26 inX5 8 rfl rfl 3 (Nat.le_of_ble_eq_true rfl) tw_52 rfl ?_
  refine V_put (w' := [((B 0), .inr (5, [.int (j.1 1), .int (j.1 2), .int (j.1 3), .int (j.1 4), .int (i.1 5), .int (i.1 6), .int (i.1 7), .int (i.1 8), .ref (B 1), .ref (B 2), .ref (B 3), .ref (B 4), .ref (B 5), .ref (B 6), .ref (B 7)])), ((B 1), .inl (G.2.1, 6, .inl (i.2 1))), ((B 2), .inl (G.2.1, 8, .inl (i.2 2))), ((B 3), .inl (G.2.1, 8, .inl (i.2 3))), ((B 4), .inl (G.2.1, 8, .inl (i.2 4))), ((B 5), .inl (G.2.1, 8, .inl (i.2 5))), ((B 6), .inl (G.2.1, 8, .inl (i.2 6))), ((B 7), .inl (G.2.1, 8, .inl (i.2 7))), ((D 0), .inr (5, [.int (j.1 1), .int (j.1 2), .int (j.1 3), .int (j.1 4), .int (j.1 5), .int (j.1 6), .int (j.1 7), .int (j.1 8), .ref (D 1), .ref (D 2), .ref (D 3), .ref (D 4), .ref (D 5), .ref (D 6), .ref (D 7)])), ((D 1), .inl (G.2.1, 6, .inl (j.2 1))), ((D 2), .inl (G.2.1, 8, .inl (j.2 2))), ((D 3), .inl (G.2.1, 8, .inl (j.2 3))), ((D 4), .inl (G.2.1, 8, .inl (j.2 4))), ((D 5), .inl (G.2.1, 8, .inl (j.2 5))), ((D 6), .inl (G.2.1, 8, .inl (j.2 6))), ((D 7), .inl (G.2.1, 8, .inl (j.2 7)))]) eX5_copyFrom_29 inX5 tyX5 tyX5_ok nmX5 0 rfl rfl 3 (Nat.le_of_ble_eq_true rfl) tw_52 rfl rfl rfl rfl (Nat.le_of_ble_eq_true rfl) rfl ?_
  refine V_aload_n eX5_copyFrom_32 0 rfl ?_
  refine V_aload_n eX5_copyFrom_33 1 rfl ?_
  refine V_get (v := .int (j.1 5)) eX5_copyFrom_34 inX5 8 rfl rfl 4 (Nat.le_of_ble_eq_true rfl) tw_54 rfl ?_
  refine V_put (w' := [((B 0), .inr (5, [.int (j.1 1), .int (j.1 2), .int (j.1 3), .int (j.1 4), .int (j.1 5), .int (i.1 6), .int (i.1 7), .int (i.1 8), .ref (B 1), .ref (B 2), .ref (B 3), .ref (B 4), .ref (B 5), .ref (B 6), .ref (B 7)])), ((B 1), .inl (G.2.1, 6, .inl (i.2 1))), ((B 2), .inl (G.2.1, 8, .inl (i.2 2))), ((B 3), .inl (G.2.1, 8, .inl (i.2 3))), ((B 4), .inl (G.2.1, 8, .inl (i.2 4))), ((B 5), .inl (G.2.1, 8, .inl (i.2 5))), ((B 6), .inl (G.2.1, 8, .inl (i.2 6))), ((B 7), .inl (G.2.1, 8, .inl (i.2 7))), ((D 0), .inr (5, [.int (j.1 1), .int (j.1 2), .int (j.1 3), .int (j.1 4), .int (j.1 5), .int (j.1 6), .int (j.1 7), .int (j.1 8), .ref (D 1), .ref (D 2), .ref (D 3), .ref (D 4), .ref (D 5), .ref (D 6), .ref (D 7)])), ((D 1), .inl (G.2.1, 6, .inl (j.2 1))), ((D 2), .inl (G.2.1, 8, .inl (j.2 2))), ((D 3), .inl (G.2.1, 8, .inl (j.2 3))), ((D 4), .inl (G.2.1, 8, .inl (j.2 4))), ((D 5), .inl (G.2.1, 8, .inl (j.2 5))), ((D 6), .inl (G.2.1, 8, .inl (j.2 6))), ((D 7), .inl (G.2.1, 8, .inl (j.2 7)))]) eX5_copyFrom_37 inX5 tyX5 tyX5_ok nmX5 0 rfl rfl 4 (Nat.le_of_ble_eq_true rfl) tw_54 rfl rfl rfl rfl (Nat.le_of_ble_eq_true rfl) rfl ?_
  refine V_aload_n eX5_copyFrom_40 0 rfl ?_
  refine V_aload_n eX5_copyFrom_41 1 rfl ?_
  refine V_get (v := .int (j.1 6)) eX5_copyFrom_42 inX5 8 rfl rfl 5 (Nat.le_of_ble_eq_true rfl) tw_56 rfl ?_
  refine V_put (w' := [((B 0), .inr (5, [.int (j.1 1), .int (j.1 2), .int (j.1 3), .int (j.1 4), .int (j.1 5), .int (j.1 6), .int (i.1 7), .int (i.1 8), .ref (B 1), .ref (B 2), .ref (B 3), .ref (B 4), .ref (B 5), .ref (B 6), .ref (B 7)])), ((B 1), .inl (G.2.1, 6, .inl (i.2 1))), ((B 2), .inl (G.2.1, 8, .inl (i.2 2))), ((B 3), .inl (G.2.1, 8, .inl (i.2 3))), ((B 4), .inl (G.2.1, 8, .inl (i.2 4))), ((B 5), .inl (G.2.1, 8, .inl (i.2 5))), ((B 6), .inl (G.2.1, 8, .inl (i.2 6))), ((B 7), .inl (G.2.1, 8, .inl (i.2 7))), ((D 0), .inr (5, [.int (j.1 1), .int (j.1 2), .int (j.1 3), .int (j.1 4), .int (j.1 5), .int (j.1 6), .int (j.1 7), .int (j.1 8), .ref (D 1), .ref (D 2), .ref (D 3), .ref (D 4), .ref (D 5), .ref (D 6), .ref (D 7)])), ((D 1), .inl (G.2.1, 6, .inl (j.2 1))), ((D 2), .inl (G.2.1, 8, .inl (j.2 2))), ((D 3), .inl (G.2.1, 8, .inl (j.2 3))), ((D 4), .inl (G.2.1, 8, .inl (j.2 4))), ((D 5), .inl (G.2.1, 8, .inl (j.2 5))), ((D 6), .inl (G.2.1, 8, .inl (j.2 6))), ((D 7), .inl (G.2.1, 8, .inl (j.2 7)))]) eX5_copyFrom_45 inX5 tyX5 tyX5_ok nmX5 0 rfl rfl 5 (Nat.le_of_ble_eq_true rfl) tw_56 rfl rfl rfl rfl (Nat.le_of_ble_eq_true rfl) rfl ?_
  refine V_aload_n eX5_copyFrom_48 0 rfl ?_
  refine V_aload_n eX5_copyFrom_49 1 rfl ?_
  refine V_get (v := .int (j.1 7)) eX5_copyFrom_50 inX5 8 rfl rfl 6 (Nat.le_of_ble_eq_true rfl) tw_58 rfl ?_
  refine V_put (w' := [((B 0), .inr (5, [.int (j.1 1), .int (j.1 2), .int (j.1 3), .int (j.1 4), .int (j.1 5), .int (j.1 6), .int (j.1 7), .int (i.1 8), .ref (B 1), .ref (B 2), .ref (B 3), .ref (B 4), .ref (B 5), .ref (B 6), .ref (B 7)])), ((B 1), .inl (G.2.1, 6, .inl (i.2 1))), ((B 2), .inl (G.2.1, 8, .inl (i.2 2))), ((B 3), .inl (G.2.1, 8, .inl (i.2 3))), ((B 4), .inl (G.2.1, 8, .inl (i.2 4))), ((B 5), .inl (G.2.1, 8, .inl (i.2 5))), ((B 6), .inl (G.2.1, 8, .inl (i.2 6))), ((B 7), .inl (G.2.1, 8, .inl (i.2 7))), ((D 0), .inr (5, [.int (j.1 1), .int (j.1 2), .int (j.1 3), .int (j.1 4), .int (j.1 5), .int (j.1 6), .int (j.1 7), .int (j.1 8), .ref (D 1), .ref (D 2), .ref (D 3), .ref (D 4), .ref (D 5), .ref (D 6), .ref (D 7)])), ((D 1), .inl (G.2.1, 6, .inl (j.2 1))), ((D 2), .inl (G.2.1, 8, .inl (j.2 2))), ((D 3), .inl (G.2.1, 8, .inl (j.2 3))), ((D 4), .inl (G.2.1, 8, .inl (j.2 4))), ((D 5), .inl (G.2.1, 8, .inl (j.2 5))), ((D 6), .inl (G.2.1, 8, .inl (j.2 6))), ((D 7), .inl (G.2.1, 8, .inl (j.2 7)))]) eX5_copyFrom_53 inX5 tyX5 tyX5_ok nmX5 0 rfl rfl 6 (Nat.le_of_ble_eq_true rfl) tw_58 rfl rfl rfl rfl (Nat.le_of_ble_eq_true rfl) rfl ?_
  refine V_aload_n eX5_copyFrom_56 0 rfl ?_
  refine V_aload_n eX5_copyFrom_57 1 rfl ?_
  refine V_get (v := .int (j.1 8)) eX5_copyFrom_58 inX5 8 rfl rfl 7 (Nat.le_of_ble_eq_true rfl) tw_60 rfl ?_
  refine V_put (w' := [((B 0), .inr (5, [.int (j.1 1), .int (j.1 2), .int (j.1 3), .int (j.1 4), .int (j.1 5), .int (j.1 6), .int (j.1 7), .int (j.1 8), .ref (B 1), .ref (B 2), .ref (B 3), .ref (B 4), .ref (B 5), .ref (B 6), .ref (B 7)])), ((B 1), .inl (G.2.1, 6, .inl (i.2 1))), ((B 2), .inl (G.2.1, 8, .inl (i.2 2))), ((B 3), .inl (G.2.1, 8, .inl (i.2 3))), ((B 4), .inl (G.2.1, 8, .inl (i.2 4))), ((B 5), .inl (G.2.1, 8, .inl (i.2 5))), ((B 6), .inl (G.2.1, 8, .inl (i.2 6))), ((B 7), .inl (G.2.1, 8, .inl (i.2 7))), ((D 0), .inr (5, [.int (j.1 1), .int (j.1 2), .int (j.1 3), .int (j.1 4), .int (j.1 5), .int (j.1 6), .int (j.1 7), .int (j.1 8), .ref (D 1), .ref (D 2), .ref (D 3), .ref (D 4), .ref (D 5), .ref (D 6), .ref (D 7)])), ((D 1), .inl (G.2.1, 6, .inl (j.2 1))), ((D 2), .inl (G.2.1, 8, .inl (j.2 2))), ((D 3), .inl (G.2.1, 8, .inl (j.2 3))), ((D 4), .inl (G.2.1, 8, .inl (j.2 4))), ((D 5), .inl (G.2.1, 8, .inl (j.2 5))), ((D 6), .inl (G.2.1, 8, .inl (j.2 6))), ((D 7), .inl (G.2.1, 8, .inl (j.2 7)))]) eX5_copyFrom_61 inX5 tyX5 tyX5_ok nmX5 0 rfl rfl 7 (Nat.le_of_ble_eq_true rfl) tw_60 rfl rfl rfl rfl (Nat.le_of_ble_eq_true rfl) rfl ?_
  refine V_aload_n eX5_copyFrom_64 1 rfl ?_
  refine V_get (v := .ref (D 1)) eX5_copyFrom_65 inX5 8 rfl rfl 8 (Nat.le_of_ble_eq_true rfl) tw_62 rfl ?_
  refine V_iconst (v := (0 : Int32)) eX5_copyFrom_68 rfl ?_
  refine V_aload_n eX5_copyFrom_69 0 rfl ?_
  refine V_get (v := .ref (B 1)) eX5_copyFrom_70 inX5 0 rfl rfl 8 (Nat.le_of_ble_eq_true rfl) tw_62 rfl ?_
  refine V_iconst (v := (0 : Int32)) eX5_copyFrom_73 rfl ?_
  refine V_bipush (v := (6 : Int32)) eX5_copyFrom_74 rfl ?_
  refine V_copy (w' := [((B 0), .inr (5, [.int (j.1 1), .int (j.1 2), .int (j.1 3), .int (j.1 4), .int (j.1 5), .int (j.1 6), .int (j.1 7), .int (j.1 8), .ref (B 1), .ref (B 2), .ref (B 3), .ref (B 4), .ref (B 5), .ref (B 6), .ref (B 7)])), ((B 1), .inl (G.2.1, 6, .inl (va_cpy (j.2 1) (i.2 1) 0 0 6))), ((B 2), .inl (G.2.1, 8, .inl (i.2 2))), ((B 3), .inl (G.2.1, 8, .inl (i.2 3))), ((B 4), .inl (G.2.1, 8, .inl (i.2 4))), ((B 5), .inl (G.2.1, 8, .inl (i.2 5))), ((B 6), .inl (G.2.1, 8, .inl (i.2 6))), ((B 7), .inl (G.2.1, 8, .inl (i.2 7))), ((D 0), .inr (5, [.int (j.1 1), .int (j.1 2), .int (j.1 3), .int (j.1 4), .int (j.1 5), .int (j.1 6), .int (j.1 7), .int (j.1 8), .ref (D 1), .ref (D 2), .ref (D 3), .ref (D 4), .ref (D 5), .ref (D 6), .ref (D 7)])), ((D 1), .inl (G.2.1, 6, .inl (j.2 1))), ((D 2), .inl (G.2.1, 8, .inl (j.2 2))), ((D 3), .inl (G.2.1, 8, .inl (j.2 3))), ((D 4), .inl (G.2.1, 8, .inl (j.2 4))), ((D 5), .inl (G.2.1, 8, .inl (j.2 5))), ((D 6), .inl (G.2.1, 8, .inl (j.2 6))), ((D 7), .inl (G.2.1, 8, .inl (j.2 7)))]) eX5_copyFrom_76 tw_623 tw_625 tw_624 tw_11 9 1 rfl rfl (by decide) (by decide) (by decide) (by decide) (by decide) (Nat.le_of_ble_eq_true rfl) (by decide +kernel) rfl ?_
  refine V_aload_n eX5_copyFrom_79 1 rfl ?_
  refine V_get (v := .ref (D 2)) eX5_copyFrom_80 inX5 8 rfl rfl 9 (Nat.le_of_ble_eq_true rfl) tw_64 rfl ?_
  refine V_iconst (v := (0 : Int32)) eX5_copyFrom_83 rfl ?_
  refine V_aload_n eX5_copyFrom_84 0 rfl ?_
  refine V_get (v := .ref (B 2)) eX5_copyFrom_85 inX5 0 rfl rfl 9 (Nat.le_of_ble_eq_true rfl) tw_64 rfl ?_
  refine V_iconst (v := (0 : Int32)) eX5_copyFrom_88 rfl ?_
  refine V_bipush (v := (8 : Int32)) eX5_copyFrom_89 rfl ?_
  refine V_copy (w' := [((B 0), .inr (5, [.int (j.1 1), .int (j.1 2), .int (j.1 3), .int (j.1 4), .int (j.1 5), .int (j.1 6), .int (j.1 7), .int (j.1 8), .ref (B 1), .ref (B 2), .ref (B 3), .ref (B 4), .ref (B 5), .ref (B 6), .ref (B 7)])), ((B 1), .inl (G.2.1, 6, .inl (va_cpy (j.2 1) (i.2 1) 0 0 6))), ((B 2), .inl (G.2.1, 8, .inl (va_cpy (j.2 2) (i.2 2) 0 0 8))), ((B 3), .inl (G.2.1, 8, .inl (i.2 3))), ((B 4), .inl (G.2.1, 8, .inl (i.2 4))), ((B 5), .inl (G.2.1, 8, .inl (i.2 5))), ((B 6), .inl (G.2.1, 8, .inl (i.2 6))), ((B 7), .inl (G.2.1, 8, .inl (i.2 7))), ((D 0), .inr (5, [.int (j.1 1), .int (j.1 2), .int (j.1 3), .int (j.1 4), .int (j.1 5), .int (j.1 6), .int (j.1 7), .int (j.1 8), .ref (D 1), .ref (D 2), .ref (D 3), .ref (D 4), .ref (D 5), .ref (D 6), .ref (D 7)])), ((D 1), .inl (G.2.1, 6, .inl (j.2 1))), ((D 2), .inl (G.2.1, 8, .inl (j.2 2))), ((D 3), .inl (G.2.1, 8, .inl (j.2 3))), ((D 4), .inl (G.2.1, 8, .inl (j.2 4))), ((D 5), .inl (G.2.1, 8, .inl (j.2 5))), ((D 6), .inl (G.2.1, 8, .inl (j.2 6))), ((D 7), .inl (G.2.1, 8, .inl (j.2 7)))]) eX5_copyFrom_91 tw_623 tw_625 tw_624 tw_11 10 2 rfl rfl (by decide) (by decide) (by decide) (by decide) (by decide) (Nat.le_of_ble_eq_true rfl) (by decide +kernel) rfl ?_
  refine V_aload_n eX5_copyFrom_94 1 rfl ?_
  refine V_get (v := .ref (D 3)) eX5_copyFrom_95 inX5 8 rfl rfl 10 (Nat.le_of_ble_eq_true rfl) tw_68 rfl ?_
  refine V_iconst (v := (0 : Int32)) eX5_copyFrom_98 rfl ?_
  refine V_aload_n eX5_copyFrom_99 0 rfl ?_
  refine V_get (v := .ref (B 3)) eX5_copyFrom_100 inX5 0 rfl rfl 10 (Nat.le_of_ble_eq_true rfl) tw_68 rfl ?_
  refine V_iconst (v := (0 : Int32)) eX5_copyFrom_103 rfl ?_
  refine V_bipush (v := (8 : Int32)) eX5_copyFrom_104 rfl ?_
  refine V_copy (w' := [((B 0), .inr (5, [.int (j.1 1), .int (j.1 2), .int (j.1 3), .int (j.1 4), .int (j.1 5), .int (j.1 6), .int (j.1 7), .int (j.1 8), .ref (B 1), .ref (B 2), .ref (B 3), .ref (B 4), .ref (B 5), .ref (B 6), .ref (B 7)])), ((B 1), .inl (G.2.1, 6, .inl (va_cpy (j.2 1) (i.2 1) 0 0 6))), ((B 2), .inl (G.2.1, 8, .inl (va_cpy (j.2 2) (i.2 2) 0 0 8))), ((B 3), .inl (G.2.1, 8, .inl (va_cpy (j.2 3) (i.2 3) 0 0 8))), ((B 4), .inl (G.2.1, 8, .inl (i.2 4))), ((B 5), .inl (G.2.1, 8, .inl (i.2 5))), ((B 6), .inl (G.2.1, 8, .inl (i.2 6))), ((B 7), .inl (G.2.1, 8, .inl (i.2 7))), ((D 0), .inr (5, [.int (j.1 1), .int (j.1 2), .int (j.1 3), .int (j.1 4), .int (j.1 5), .int (j.1 6), .int (j.1 7), .int (j.1 8), .ref (D 1), .ref (D 2), .ref (D 3), .ref (D 4), .ref (D 5), .ref (D 6), .ref (D 7)])), ((D 1), .inl (G.2.1, 6, .inl (j.2 1))), ((D 2), .inl (G.2.1, 8, .inl (j.2 2))), ((D 3), .inl (G.2.1, 8, .inl (j.2 3))), ((D 4), .inl (G.2.1, 8, .inl (j.2 4))), ((D 5), .inl (G.2.1, 8, .inl (j.2 5))), ((D 6), .inl (G.2.1, 8, .inl (j.2 6))), ((D 7), .inl (G.2.1, 8, .inl (j.2 7)))]) eX5_copyFrom_106 tw_623 tw_625 tw_624 tw_11 11 3 rfl rfl (by decide) (by decide) (by decide) (by decide) (by decide) (Nat.le_of_ble_eq_true rfl) (by decide +kernel) rfl ?_
  refine V_aload_n eX5_copyFrom_109 1 rfl ?_
  refine V_get (v := .ref (D 4)) eX5_copyFrom_110 inX5 8 rfl rfl 11 (Nat.le_of_ble_eq_true rfl) tw_71 rfl ?_
  refine V_iconst (v := (0 : Int32)) eX5_copyFrom_113 rfl ?_
  refine V_aload_n eX5_copyFrom_114 0 rfl ?_
  refine V_get (v := .ref (B 4)) eX5_copyFrom_115 inX5 0 rfl rfl 11 (Nat.le_of_ble_eq_true rfl) tw_71 rfl ?_
  refine V_iconst (v := (0 : Int32)) eX5_copyFrom_118 rfl ?_
  refine V_bipush (v := (8 : Int32)) eX5_copyFrom_119 rfl ?_
  refine V_copy (w' := [((B 0), .inr (5, [.int (j.1 1), .int (j.1 2), .int (j.1 3), .int (j.1 4), .int (j.1 5), .int (j.1 6), .int (j.1 7), .int (j.1 8), .ref (B 1), .ref (B 2), .ref (B 3), .ref (B 4), .ref (B 5), .ref (B 6), .ref (B 7)])), ((B 1), .inl (G.2.1, 6, .inl (va_cpy (j.2 1) (i.2 1) 0 0 6))), ((B 2), .inl (G.2.1, 8, .inl (va_cpy (j.2 2) (i.2 2) 0 0 8))), ((B 3), .inl (G.2.1, 8, .inl (va_cpy (j.2 3) (i.2 3) 0 0 8))), ((B 4), .inl (G.2.1, 8, .inl (va_cpy (j.2 4) (i.2 4) 0 0 8))), ((B 5), .inl (G.2.1, 8, .inl (i.2 5))), ((B 6), .inl (G.2.1, 8, .inl (i.2 6))), ((B 7), .inl (G.2.1, 8, .inl (i.2 7))), ((D 0), .inr (5, [.int (j.1 1), .int (j.1 2), .int (j.1 3), .int (j.1 4), .int (j.1 5), .int (j.1 6), .int (j.1 7), .int (j.1 8), .ref (D 1), .ref (D 2), .ref (D 3), .ref (D 4), .ref (D 5), .ref (D 6), .ref (D 7)])), ((D 1), .inl (G.2.1, 6, .inl (j.2 1))), ((D 2), .inl (G.2.1, 8, .inl (j.2 2))), ((D 3), .inl (G.2.1, 8, .inl (j.2 3))), ((D 4), .inl (G.2.1, 8, .inl (j.2 4))), ((D 5), .inl (G.2.1, 8, .inl (j.2 5))), ((D 6), .inl (G.2.1, 8, .inl (j.2 6))), ((D 7), .inl (G.2.1, 8, .inl (j.2 7)))]) eX5_copyFrom_121 tw_623 tw_625 tw_624 tw_11 12 4 rfl rfl (by decide) (by decide) (by decide) (by decide) (by decide) (Nat.le_of_ble_eq_true rfl) (by decide +kernel) rfl ?_
  refine V_aload_n eX5_copyFrom_124 1 rfl ?_
  refine V_get (v := .ref (D 5)) eX5_copyFrom_125 inX5 8 rfl rfl 12 (Nat.le_of_ble_eq_true rfl) tw_74 rfl ?_
  refine V_iconst (v := (0 : Int32)) eX5_copyFrom_128 rfl ?_
  refine V_aload_n eX5_copyFrom_129 0 rfl ?_
  refine V_get (v := .ref (B 5)) eX5_copyFrom_130 inX5 0 rfl rfl 12 (Nat.le_of_ble_eq_true rfl) tw_74 rfl ?_
  refine V_iconst (v := (0 : Int32)) eX5_copyFrom_133 rfl ?_
  refine V_bipush (v := (8 : Int32)) eX5_copyFrom_134 rfl ?_
  refine V_copy (w' := [((B 0), .inr (5, [.int (j.1 1), .int (j.1 2), .int (j.1 3), .int (j.1 4), .int (j.1 5), .int (j.1 6), .int (j.1 7), .int (j.1 8), .ref (B 1), .ref (B 2), .ref (B 3), .ref (B 4), .ref (B 5), .ref (B 6), .ref (B 7)])), ((B 1), .inl (G.2.1, 6, .inl (va_cpy (j.2 1) (i.2 1) 0 0 6))), ((B 2), .inl (G.2.1, 8, .inl (va_cpy (j.2 2) (i.2 2) 0 0 8))), ((B 3), .inl (G.2.1, 8, .inl (va_cpy (j.2 3) (i.2 3) 0 0 8))), ((B 4), .inl (G.2.1, 8, .inl (va_cpy (j.2 4) (i.2 4) 0 0 8))), ((B 5), .inl (G.2.1, 8, .inl (va_cpy (j.2 5) (i.2 5) 0 0 8))), ((B 6), .inl (G.2.1, 8, .inl (i.2 6))), ((B 7), .inl (G.2.1, 8, .inl (i.2 7))), ((D 0), .inr (5, [.int (j.1 1), .int (j.1 2), .int (j.1 3), .int (j.1 4), .int (j.1 5), .int (j.1 6), .int (j.1 7), .int (j.1 8), .ref (D 1), .ref (D 2), .ref (D 3), .ref (D 4), .ref (D 5), .ref (D 6), .ref (D 7)])), ((D 1), .inl (G.2.1, 6, .inl (j.2 1))), ((D 2), .inl (G.2.1, 8, .inl (j.2 2))), ((D 3), .inl (G.2.1, 8, .inl (j.2 3))), ((D 4), .inl (G.2.1, 8, .inl (j.2 4))), ((D 5), .inl (G.2.1, 8, .inl (j.2 5))), ((D 6), .inl (G.2.1, 8, .inl (j.2 6))), ((D 7), .inl (G.2.1, 8, .inl (j.2 7)))]) eX5_copyFrom_136 tw_623 tw_625 tw_624 tw_11 13 5 rfl rfl (by decide) (by decide) (by decide) (by decide) (by decide) (Nat.le_of_ble_eq_true rfl) (by decide +kernel) rfl ?_
  refine V_aload_n eX5_copyFrom_139 1 rfl ?_
  refine V_get (v := .ref (D 6)) eX5_copyFrom_140 inX5 8 rfl rfl 13 (Nat.le_of_ble_eq_true rfl) tw_77 rfl ?_
  refine V_iconst (v := (0 : Int32)) eX5_copyFrom_143 rfl ?_
  refine V_aload_n eX5_copyFrom_144 0 rfl ?_
  refine V_get (v := .ref (B 6)) eX5_copyFrom_145 inX5 0 rfl rfl 13 (Nat.le_of_ble_eq_true rfl) tw_77 rfl ?_
  refine V_iconst (v := (0 : Int32)) eX5_copyFrom_148 rfl ?_
  refine V_bipush (v := (8 : Int32)) eX5_copyFrom_149 rfl ?_
  refine V_copy (w' := [((B 0), .inr (5, [.int (j.1 1), .int (j.1 2), .int (j.1 3), .int (j.1 4), .int (j.1 5), .int (j.1 6), .int (j.1 7), .int (j.1 8), .ref (B 1), .ref (B 2), .ref (B 3), .ref (B 4), .ref (B 5), .ref (B 6), .ref (B 7)])), ((B 1), .inl (G.2.1, 6, .inl (va_cpy (j.2 1) (i.2 1) 0 0 6))), ((B 2), .inl (G.2.1, 8, .inl (va_cpy (j.2 2) (i.2 2) 0 0 8))), ((B 3), .inl (G.2.1, 8, .inl (va_cpy (j.2 3) (i.2 3) 0 0 8))), ((B 4), .inl (G.2.1, 8, .inl (va_cpy (j.2 4) (i.2 4) 0 0 8))), ((B 5), .inl (G.2.1, 8, .inl (va_cpy (j.2 5) (i.2 5) 0 0 8))), ((B 6), .inl (G.2.1, 8, .inl (va_cpy (j.2 6) (i.2 6) 0 0 8))), ((B 7), .inl (G.2.1, 8, .inl (i.2 7))), ((D 0), .inr (5, [.int (j.1 1), .int (j.1 2), .int (j.1 3), .int (j.1 4), .int (j.1 5), .int (j.1 6), .int (j.1 7), .int (j.1 8), .ref (D 1), .ref (D 2), .ref (D 3), .ref (D 4), .ref (D 5), .ref (D 6), .ref (D 7)])), ((D 1), .inl (G.2.1, 6, .inl (j.2 1))), ((D 2), .inl (G.2.1, 8, .inl (j.2 2))), ((D 3), .inl (G.2.1, 8, .inl (j.2 3))), ((D 4), .inl (G.2.1, 8, .inl (j.2 4))), ((D 5), .inl (G.2.1, 8, .inl (j.2 5))), ((D 6), .inl (G.2.1, 8, .inl (j.2 6))), ((D 7), .inl (G.2.1, 8, .inl (j.2 7)))]) eX5_copyFrom_151 tw_623 tw_625 tw_624 tw_11 14 6 rfl rfl (by decide) (by decide) (by decide) (by decide) (by decide) (Nat.le_of_ble_eq_true rfl) (by decide +kernel) rfl ?_
  refine V_aload_n eX5_copyFrom_154 1 rfl ?_
  refine V_get (v := .ref (D 7)) eX5_copyFrom_155 inX5 8 rfl rfl 14 (Nat.le_of_ble_eq_true rfl) tw_79 rfl ?_
  refine V_iconst (v := (0 : Int32)) eX5_copyFrom_158 rfl ?_
  refine V_aload_n eX5_copyFrom_159 0 rfl ?_
  refine V_get (v := .ref (B 7)) eX5_copyFrom_160 inX5 0 rfl rfl 14 (Nat.le_of_ble_eq_true rfl) tw_79 rfl ?_
  refine V_iconst (v := (0 : Int32)) eX5_copyFrom_163 rfl ?_
  refine V_bipush (v := (8 : Int32)) eX5_copyFrom_164 rfl ?_
  refine V_copy (w' := [((B 0), .inr (5, [.int (j.1 1), .int (j.1 2), .int (j.1 3), .int (j.1 4), .int (j.1 5), .int (j.1 6), .int (j.1 7), .int (j.1 8), .ref (B 1), .ref (B 2), .ref (B 3), .ref (B 4), .ref (B 5), .ref (B 6), .ref (B 7)])), ((B 1), .inl (G.2.1, 6, .inl (va_cpy (j.2 1) (i.2 1) 0 0 6))), ((B 2), .inl (G.2.1, 8, .inl (va_cpy (j.2 2) (i.2 2) 0 0 8))), ((B 3), .inl (G.2.1, 8, .inl (va_cpy (j.2 3) (i.2 3) 0 0 8))), ((B 4), .inl (G.2.1, 8, .inl (va_cpy (j.2 4) (i.2 4) 0 0 8))), ((B 5), .inl (G.2.1, 8, .inl (va_cpy (j.2 5) (i.2 5) 0 0 8))), ((B 6), .inl (G.2.1, 8, .inl (va_cpy (j.2 6) (i.2 6) 0 0 8))), ((B 7), .inl (G.2.1, 8, .inl (va_cpy (j.2 7) (i.2 7) 0 0 8))), ((D 0), .inr (5, [.int (j.1 1), .int (j.1 2), .int (j.1 3), .int (j.1 4), .int (j.1 5), .int (j.1 6), .int (j.1 7), .int (j.1 8), .ref (D 1), .ref (D 2), .ref (D 3), .ref (D 4), .ref (D 5), .ref (D 6), .ref (D 7)])), ((D 1), .inl (G.2.1, 6, .inl (j.2 1))), ((D 2), .inl (G.2.1, 8, .inl (j.2 2))), ((D 3), .inl (G.2.1, 8, .inl (j.2 3))), ((D 4), .inl (G.2.1, 8, .inl (j.2 4))), ((D 5), .inl (G.2.1, 8, .inl (j.2 5))), ((D 6), .inl (G.2.1, 8, .inl (j.2 6))), ((D 7), .inl (G.2.1, 8, .inl (j.2 7)))]) eX5_copyFrom_166 tw_623 tw_625 tw_624 tw_11 15 7 rfl rfl (by decide) (by decide) (by decide) (by decide) (by decide) (Nat.le_of_ble_eq_true rfl) (by decide +kernel) rfl ?_
  exact V_vret eX5_copyFrom_169 rfl ⟨rfl, rfl⟩
theorem wIr_up0 {B : Nat → Nat} {x : SS} {i0 i1 : tg_I} : va_up (wIr i0 i1) (0 : Int32).toNatClampNeg (some (B 0)) = wIr (some (B, x)) i1 := by
  funext k
  show (if k = 0 then _ else _) = _
  unfold wIr
  by_cases h : k = 0
  · subst h; rfl
  · rw [if_neg h, if_neg h, if_neg h]
theorem wIr_up1 {B : Nat → Nat} {x : SS} {i0 i1 : tg_I} : va_up (wIr i0 i1) (1 : Int32).toNatClampNeg (some (B 0)) = wIr i0 (some (B, x)) := by
  funext k
  show (if k = 1 then _ else _) = _
  unfold wIr
  by_cases h : k = 1
  · subst h; rfl
  · rw [if_neg h, if_neg h, if_neg h]
/-- what image and restore see: the object, the row of images, the World, the images -/
def wX (G : tg_G) (A : Nat → Nat) (c : SS) (i0 i1 : tg_I) : va_W := [(A 0, .inr (6, [.ref (A 1), .ref (A 3), .ref (A 28), .ref (A 11), .ref (A 13), .ref (A 18), .ref (A 21), .ref (A 26), .ref (A 27)])), (A 28, .inl (G.2.2.2.1, 2, .inr (.inr (.inr (.inr (wIr i0 i1))))))] ++ (wW G (fun j => A (3 + j)) c ++ (wIc G i0 ++ wIc G i1))
set_option maxRecDepth 20000 in
theorem kt_image_000 (l : Launch) (G : tg_G) (A : Nat → Nat) (c : SS) : Mt l G yX6_image cX6_image 3 (some .int) ({ frames := 2, cells := 8, slots := 69, locals := 100 } : Room) [.ref (A 0), .int (0 : Int32)] (wX G A c (none) (none)) (fun v w1 => v = some (.int 1) ∧ ∃ BN : Nat → Nat, w1 = wX G A c (some (BN, cpW tg_ini c)) (none)) := by
  refine Mt_of2 (own := "TramGod") (nm := "image") rfl rfl rfl (Nat.le_of_ble_eq_true rfl) (lv := [(0, .ref (A 0)), (1, .int (0 : Int32))]) rfl ?_
  refine V_iload_n eX6_image_0 1 rfl ?_
  refine V_iconst (v := (0 : Int32)) eX6_image_1 rfl ?_
  refine V_iconst (v := (1 : Int32)) eX6_image_2 rfl ?_
  refine V_callSi (rest := []) eX6_image_3 (ctX6_within l G _ (0 : Int32) (0 : Int32) (1 : Int32) rfl) tc_241 tw_239 tw_1 tw_240 hdX6_within rfl ⟨Nat.le_of_ble_eq_true rfl, Nat.le_of_ble_eq_true rfl⟩ rfl (Nat.le_of_ble_eq_true rfl) ⟨Nat.zero_le _, Nat.zero_le _⟩ ?_
  refine V_if_ne (tgt := 12) eX6_image_6 rfl (fun _ => ?_) (fun hb => absurd hb (by decide))
  refine V_aload_n eX6_image_12 0 rfl ?_
  refine V_get (v := .ref (A 28)) eX6_image_13 inX6 0 rfl rfl 2 (Nat.le_of_ble_eq_true rfl) tw_209 rfl ?_
  refine V_iload_n eX6_image_16 1 rfl ?_
  refine V_aald (v := .null) eX6_image_17 1 rfl (by unfold vp_in; decide) rfl ?_
  refine V_astore_nN (lv' := [(2, .null), (0, .ref (A 0)), (1, .int (0 : Int32))]) eX6_image_18 (Nat.le_of_ble_eq_true rfl) rfl ?_
  refine V_aload_nN eX6_image_19 0 rfl ?_
  refine V_ifnonnullN eX6_image_20 ?_
  refine V_new tyX5 [.int 0, .int 0, .int 0, .int 0, .int 0, .int 0, .int 0, .int 0, .null, .null, .null, .null, .null, .null, .null] eX6_image_23 inX5 tyX5_ok tw_36 tw_37 tw_3 (ci := 5) rfl (by decide +kernel) (Nat.le_of_ble_eq_true rfl) (Nat.le_of_ble_eq_true rfl) (fun q1 => ?_)
  refine V_dup eX6_image_26 rfl ?_
  refine V_callINF (rest := [.ref q1]) (wc := [(q1, .inr (5, [.int 0, .int 0, .int 0, .int 0, .int 0, .int 0, .int 0, .int 0, .null, .null, .null, .null, .null, .null, .null]))]) (wr := [((A 0), .inr (6, [.ref (A 1), .ref (A 3), .ref (A 28), .ref (A 11), .ref (A 13), .ref (A 18), .ref (A 21), .ref (A 26), .ref (A 27)])), ((A 28), .inl (G.2.2.2.1, 2, .inr (.inr (.inr (.inr (wIr (none) (none))))))), ((A 3), .inr (5, [.int (c.1 1), .int (c.1 2), .int (c.1 3), .int (c.1 4), .int (c.1 5), .int (c.1 6), .int (c.1 7), .int (c.1 8), .ref (A 4), .ref (A 5), .ref (A 6), .ref (A 7), .ref (A 8), .ref (A 9), .ref (A 10)])), ((A 4), .inl (G.2.1, 6, .inl (c.2 1))), ((A 5), .inl (G.2.1, 8, .inl (c.2 2))), ((A 6), .inl (G.2.1, 8, .inl (c.2 3))), ((A 7), .inl (G.2.1, 8, .inl (c.2 4))), ((A 8), .inl (G.2.1, 8, .inl (c.2 5))), ((A 9), .inl (G.2.1, 8, .inl (c.2 6))), ((A 10), .inl (G.2.1, 8, .inl (c.2 7)))]) eX6_image_27 (ktX5_init l G q1) tc_40 (List.mem_of_getElem? (i := 1) rfl) tw_3 tw_39 rfl hdX5_init rfl ⟨Nat.le_of_ble_eq_true rfl, Nat.le_of_ble_eq_true rfl⟩ ⟨Nat.le_of_ble_eq_true rfl, Nat.le_of_ble_eq_true rfl⟩ rfl (Nat.le_of_ble_eq_true rfl) [10] [0, 1, 2, 3, 4, 5, 6, 7, 8, 9] rfl rfl rfl (by decide) (by decide) (fun v w1 hq => ?_)
  obtain ⟨rfl, q1_1, q2_1, q3_1, q4_1, q5_1, q6_1, q7_1, rfl⟩ := hq
  obtain ⟨BN, hBN⟩ : ∃ BN : Nat → Nat, BN = fun k => (([q1, q1_1, q2_1, q3_1, q4_1, q5_1, q6_1, q7_1] : List Nat).getD k 0) := ⟨_, rfl⟩
  refine V_weq (w' := [((A 0), .inr (6, [.ref (A 1), .ref (A 3), .ref (A 28), .ref (A 11), .ref (A 13), .ref (A 18), .ref (A 21), .ref (A 26), .ref (A 27)])), ((A 28), .inl (G.2.2.2.1, 2, .inr (.inr (.inr (.inr (wIr (none) (none))))))), ((A 3), .inr (5, [.int (c.1 1), .int (c.1 2), .int (c.1 3), .int (c.1 4), .int (c.1 5), .int (c.1 6), .int (c.1 7), .int (c.1 8), .ref (A 4), .ref (A 5), .ref (A 6), .ref (A 7), .ref (A 8), .ref (A 9), .ref (A 10)])), ((A 4), .inl (G.2.1, 6, .inl (c.2 1))), ((A 5), .inl (G.2.1, 8, .inl (c.2 2))), ((A 6), .inl (G.2.1, 8, .inl (c.2 3))), ((A 7), .inl (G.2.1, 8, .inl (c.2 4))), ((A 8), .inl (G.2.1, 8, .inl (c.2 5))), ((A 9), .inl (G.2.1, 8, .inl (c.2 6))), ((A 10), .inl (G.2.1, 8, .inl (c.2 7))), ((BN 0), .inr (5, [.int (tg_ini.1 1), .int (tg_ini.1 2), .int (tg_ini.1 3), .int (tg_ini.1 4), .int (tg_ini.1 5), .int (tg_ini.1 6), .int (tg_ini.1 7), .int (tg_ini.1 8), .ref (BN 1), .ref (BN 2), .ref (BN 3), .ref (BN 4), .ref (BN 5), .ref (BN 6), .ref (BN 7)])), ((BN 1), .inl (G.2.1, 6, .inl (tg_ini.2 1))), ((BN 2), .inl (G.2.1, 8, .inl (tg_ini.2 2))), ((BN 3), .inl (G.2.1, 8, .inl (tg_ini.2 3))), ((BN 4), .inl (G.2.1, 8, .inl (tg_ini.2 4))), ((BN 5), .inl (G.2.1, 8, .inl (tg_ini.2 5))), ((BN 6), .inl (G.2.1, 8, .inl (tg_ini.2 6))), ((BN 7), .inl (G.2.1, 8, .inl (tg_ini.2 7)))]) (by rw [hBN]; rfl) ?_
  refine V_steq (st' := [.ref (BN 0)]) (by rw [hBN]; rfl) ?_
  refine V_astore_n (lv' := [(2, .ref (BN 0)), (0, .ref (A 0)), (1, .int (0 : Int32))]) eX6_image_30 (Nat.le_of_ble_eq_true rfl) rfl ?_
  refine V_aload_n eX6_image_31 1 rfl ?_
  refine V_get (v := .ref (A 28)) eX6_image_32 inX6 0 rfl rfl 2 (Nat.le_of_ble_eq_true rfl) tw_209 rfl ?_
  refine V_iload_n eX6_image_35 2 rfl ?_
  refine V_aload_n eX6_image_36 0 rfl ?_
  refine V_aast (w' := [((A 0), .inr (6, [.ref (A 1), .ref (A 3), .ref (A 28), .ref (A 11), .ref (A 13), .ref (A 18), .ref (A 21), .ref (A 26), .ref (A 27)])), ((A 28), .inl (G.2.2.2.1, 2, .inr (.inr (.inr (.inr (va_up (wIr (none) (none)) ((0 : Int32)).toNatClampNeg (some (BN 0)))))))), ((A 3), .inr (5, [.int (c.1 1), .int (c.1 2), .int (c.1 3), .int (c.1 4), .int (c.1 5), .int (c.1 6), .int (c.1 7), .int (c.1 8), .ref (A 4), .ref (A 5), .ref (A 6), .ref (A 7), .ref (A 8), .ref (A 9), .ref (A 10)])), ((A 4), .inl (G.2.1, 6, .inl (c.2 1))), ((A 5), .inl (G.2.1, 8, .inl (c.2 2))), ((A 6), .inl (G.2.1, 8, .inl (c.2 3))), ((A 7), .inl (G.2.1, 8, .inl (c.2 4))), ((A 8), .inl (G.2.1, 8, .inl (c.2 5))), ((A 9), .inl (G.2.1, 8, .inl (c.2 6))), ((A 10), .inl (G.2.1, 8, .inl (c.2 7))), ((BN 0), .inr (5, [.int (tg_ini.1 1), .int (tg_ini.1 2), .int (tg_ini.1 3), .int (tg_ini.1 4), .int (tg_ini.1 5), .int (tg_ini.1 6), .int (tg_ini.1 7), .int (tg_ini.1 8), .ref (BN 1), .ref (BN 2), .ref (BN 3), .ref (BN 4), .ref (BN 5), .ref (BN 6), .ref (BN 7)])), ((BN 1), .inl (G.2.1, 6, .inl (tg_ini.2 1))), ((BN 2), .inl (G.2.1, 8, .inl (tg_ini.2 2))), ((BN 3), .inl (G.2.1, 8, .inl (tg_ini.2 3))), ((BN 4), .inl (G.2.1, 8, .inl (tg_ini.2 4))), ((BN 5), .inl (G.2.1, 8, .inl (tg_ini.2 5))), ((BN 6), .inl (G.2.1, 8, .inl (tg_ini.2 6))), ((BN 7), .inl (G.2.1, 8, .inl (tg_ini.2 7)))]) eX6_image_37 1 10 rfl rfl (by unfold vp_in; decide) rfl ?_
  refine V_aload_n eX6_image_38 0 rfl ?_
  refine V_aload_n eX6_image_39 1 rfl ?_
  refine V_get (v := .ref (A 3)) eX6_image_40 inX6 0 rfl rfl 1 (Nat.le_of_ble_eq_true rfl) tw_208 rfl ?_
  refine V_callVF (rest := []) (wc := wW G BN tg_ini ++ wW G (fun j => A (3 + j)) c) (wr := [((A 0), .inr (6, [.ref (A 1), .ref (A 3), .ref (A 28), .ref (A 11), .ref (A 13), .ref (A 18), .ref (A 21), .ref (A 26), .ref (A 27)])), ((A 28), .inl (G.2.2.2.1, 2, .inr (.inr (.inr (.inr (va_up (wIr (none) (none)) ((0 : Int32)).toNatClampNeg (some (BN 0))))))))]) eX6_image_43 (kt_copyFrom l G BN (fun j => A (3 + j)) tg_ini c) tc_622 tw_619 tw_3 tw_620 tw_621 10 rfl rfl hdX5_copyFrom rfl ⟨Nat.le_of_ble_eq_true rfl, Nat.le_of_ble_eq_true rfl⟩ ⟨Nat.le_of_ble_eq_true rfl, Nat.le_of_ble_eq_true rfl⟩ rfl (Nat.le_of_ble_eq_true rfl) [10, 11, 12, 13, 14, 15, 16, 17, 2, 3, 4, 5, 6, 7, 8, 9] [0, 1] rfl rfl rfl rfl (by decide) (fun v w1 hq => ?_)
  obtain ⟨rfl, rfl⟩ := hq
  refine V_iconst (v := (1 : Int32)) eX6_image_46 rfl ?_
  refine V_w (w' := [((A 0), .inr (6, [.ref (A 1), .ref (A 3), .ref (A 28), .ref (A 11), .ref (A 13), .ref (A 18), .ref (A 21), .ref (A 26), .ref (A 27)])), ((A 28), .inl (G.2.2.2.1, 2, .inr (.inr (.inr (.inr (va_up (wIr (none) (none)) ((0 : Int32)).toNatClampNeg (some (BN 0)))))))), ((A 3), .inr (5, [.int (c.1 1), .int (c.1 2), .int (c.1 3), .int (c.1 4), .int (c.1 5), .int (c.1 6), .int (c.1 7), .int (c.1 8), .ref (A 4), .ref (A 5), .ref (A 6), .ref (A 7), .ref (A 8), .ref (A 9), .ref (A 10)])), ((A 4), .inl (G.2.1, 6, .inl (c.2 1))), ((A 5), .inl (G.2.1, 8, .inl (c.2 2))), ((A 6), .inl (G.2.1, 8, .inl (c.2 3))), ((A 7), .inl (G.2.1, 8, .inl (c.2 4))), ((A 8), .inl (G.2.1, 8, .inl (c.2 5))), ((A 9), .inl (G.2.1, 8, .inl (c.2 6))), ((A 10), .inl (G.2.1, 8, .inl (c.2 7))), ((BN 0), .inr (5, [.int ((cpW tg_ini c).1 1), .int ((cpW tg_ini c).1 2), .int ((cpW tg_ini c).1 3), .int ((cpW tg_ini c).1 4), .int ((cpW tg_ini c).1 5), .int ((cpW tg_ini c).1 6), .int ((cpW tg_ini c).1 7), .int ((cpW tg_ini c).1 8), .ref (BN 1), .ref (BN 2), .ref (BN 3), .ref (BN 4), .ref (BN 5), .ref (BN 6), .ref (BN 7)])), ((BN 1), .inl (G.2.1, 6, .inl ((cpW tg_ini c).2 1))), ((BN 2), .inl (G.2.1, 8, .inl ((cpW tg_ini c).2 2))), ((BN 3), .inl (G.2.1, 8, .inl ((cpW tg_ini c).2 3))), ((BN 4), .inl (G.2.1, 8, .inl ((cpW tg_ini c).2 4))), ((BN 5), .inl (G.2.1, 8, .inl ((cpW tg_ini c).2 5))), ((BN 6), .inl (G.2.1, 8, .inl ((cpW tg_ini c).2 6))), ((BN 7), .inl (G.2.1, 8, .inl ((cpW tg_ini c).2 7)))]) [0, 1, 10, 11, 12, 13, 14, 15, 16, 17, 2, 3, 4, 5, 6, 7, 8, 9] (by decide) rfl ?_
  refine V_weq (w' := [((A 0), .inr (6, [.ref (A 1), .ref (A 3), .ref (A 28), .ref (A 11), .ref (A 13), .ref (A 18), .ref (A 21), .ref (A 26), .ref (A 27)])), ((A 28), .inl (G.2.2.2.1, 2, .inr (.inr (.inr (.inr (wIr (some (BN, cpW tg_ini c)) (none))))))), ((A 3), .inr (5, [.int (c.1 1), .int (c.1 2), .int (c.1 3), .int (c.1 4), .int (c.1 5), .int (c.1 6), .int (c.1 7), .int (c.1 8), .ref (A 4), .ref (A 5), .ref (A 6), .ref (A 7), .ref (A 8), .ref (A 9), .ref (A 10)])), ((A 4), .inl (G.2.1, 6, .inl (c.2 1))), ((A 5), .inl (G.2.1, 8, .inl (c.2 2))), ((A 6), .inl (G.2.1, 8, .inl (c.2 3))), ((A 7), .inl (G.2.1, 8, .inl (c.2 4))), ((A 8), .inl (G.2.1, 8, .inl (c.2 5))), ((A 9), .inl (G.2.1, 8, .inl (c.2 6))), ((A 10), .inl (G.2.1, 8, .inl (c.2 7))), ((BN 0), .inr (5, [.int ((cpW tg_ini c).1 1), .int ((cpW tg_ini c).1 2), .int ((cpW tg_ini c).1 3), .int ((cpW tg_ini c).1 4), .int ((cpW tg_ini c).1 5), .int ((cpW tg_ini c).1 6), .int ((cpW tg_ini c).1 7), .int ((cpW tg_ini c).1 8), .ref (BN 1), .ref (BN 2), .ref (BN 3), .ref (BN 4), .ref (BN 5), .ref (BN 6), .ref (BN 7)])), ((BN 1), .inl (G.2.1, 6, .inl ((cpW tg_ini c).2 1))), ((BN 2), .inl (G.2.1, 8, .inl ((cpW tg_ini c).2 2))), ((BN 3), .inl (G.2.1, 8, .inl ((cpW tg_ini c).2 3))), ((BN 4), .inl (G.2.1, 8, .inl ((cpW tg_ini c).2 4))), ((BN 5), .inl (G.2.1, 8, .inl ((cpW tg_ini c).2 5))), ((BN 6), .inl (G.2.1, 8, .inl ((cpW tg_ini c).2 6))), ((BN 7), .inl (G.2.1, 8, .inl ((cpW tg_ini c).2 7)))]) (by rw [wIr_up0]) ?_
  exact V_ret eX6_image_47 rfl ⟨rfl, BN, rfl⟩
set_option maxRecDepth 20000 in
theorem kt_image_001 (l : Launch) (G : tg_G) (A : Nat → Nat) (c : SS) (b1 : Nat → Nat) (j1 : SS) : Mt l G yX6_image cX6_image 3 (some .int) ({ frames := 2, cells := 8, slots := 69, locals := 100 } : Room) [.ref (A 0), .int (0 : Int32)] (wX G A c (none) (some (b1, j1))) (fun v w1 => v = some (.int 1) ∧ ∃ BN : Nat → Nat, w1 = wX G A c (some (BN, cpW tg_ini c)) (some (b1, j1))) := by
  refine Mt_of2 (own := "TramGod") (nm := "image") rfl rfl rfl (Nat.le_of_ble_eq_true rfl) (lv := [(0, .ref (A 0)), (1, .int (0 : Int32))]) rfl ?_
  refine V_iload_n eX6_image_0 1 rfl ?_
  refine V_iconst (v := (0 : Int32)) eX6_image_1 rfl ?_
  refine V_iconst (v := (1 : Int32)) eX6_image_2 rfl ?_
  refine V_callSi (rest := []) eX6_image_3 (ctX6_within l G _ (0 : Int32) (0 : Int32) (1 : Int32) rfl) tc_241 tw_239 tw_1 tw_240 hdX6_within rfl ⟨Nat.le_of_ble_eq_true rfl, Nat.le_of_ble_eq_true rfl⟩ rfl (Nat.le_of_ble_eq_true rfl) ⟨Nat.zero_le _, Nat.zero_le _⟩ ?_
  refine V_if_ne (tgt := 12) eX6_image_6 rfl (fun _ => ?_) (fun hb => absurd hb (by decide))
  refine V_aload_n eX6_image_12 0 rfl ?_
  refine V_get (v := .ref (A 28)) eX6_image_13 inX6 0 rfl rfl 2 (Nat.le_of_ble_eq_true rfl) tw_209 rfl ?_
  refine V_iload_n eX6_image_16 1 rfl ?_
  refine V_aald (v := .null) eX6_image_17 1 rfl (by unfold vp_in; decide) rfl ?_
  refine V_astore_nN (lv' := [(2, .null), (0, .ref (A 0)), (1, .int (0 : Int32))]) eX6_image_18 (Nat.le_of_ble_eq_true rfl) rfl ?_
  refine V_aload_nN eX6_image_19 0 rfl ?_
  refine V_ifnonnullN eX6_image_20 ?_
  refine V_new tyX5 [.int 0, .int 0, .int 0, .int 0, .int 0, .int 0, .int 0, .int 0, .null, .null, .null, .null, .null, .null, .null] eX6_image_23 inX5 tyX5_ok tw_36 tw_37 tw_3 (ci := 5) rfl (by decide +kernel) (Nat.le_of_ble_eq_true rfl) (Nat.le_of_ble_eq_true rfl) (fun q1 => ?_)
  refine V_dup eX6_image_26 rfl ?_
  refine V_callINF (rest := [.ref q1]) (wc := [(q1, .inr (5, [.int 0, .int 0, .int 0, .int 0, .int 0, .int 0, .int 0, .int 0, .null, .null, .null, .null, .null, .null, .null]))]) (wr := [((A 0), .inr (6, [.ref (A 1), .ref (A 3), .ref (A 28), .ref (A 11), .ref (A 13), .ref (A 18), .ref (A 21), .ref (A 26), .ref (A 27)])), ((A 28), .inl (G.2.2.2.1, 2, .inr (.inr (.inr (.inr (wIr (none) (some (b1, j1)))))))), ((A 3), .inr (5, [.int (c.1 1), .int (c.1 2), .int (c.1 3), .int (c.1 4), .int (c.1 5), .int (c.1 6), .int (c.1 7), .int (c.1 8), .ref (A 4), .ref (A 5), .ref (A 6), .ref (A 7), .ref (A 8), .ref (A 9), .ref (A 10)])), ((A 4), .inl (G.2.1, 6, .inl (c.2 1))), ((A 5), .inl (G.2.1, 8, .inl (c.2 2))), ((A 6), .inl (G.2.1, 8, .inl (c.2 3))), ((A 7), .inl (G.2.1, 8, .inl (c.2 4))), ((A 8), .inl (G.2.1, 8, .inl (c.2 5))), ((A 9), .inl (G.2.1, 8, .inl (c.2 6))), ((A 10), .inl (G.2.1, 8, .inl (c.2 7))), ((b1 0), .inr (5, [.int (j1.1 1), .int (j1.1 2), .int (j1.1 3), .int (j1.1 4), .int (j1.1 5), .int (j1.1 6), .int (j1.1 7), .int (j1.1 8), .ref (b1 1), .ref (b1 2), .ref (b1 3), .ref (b1 4), .ref (b1 5), .ref (b1 6), .ref (b1 7)])), ((b1 1), .inl (G.2.1, 6, .inl (j1.2 1))), ((b1 2), .inl (G.2.1, 8, .inl (j1.2 2))), ((b1 3), .inl (G.2.1, 8, .inl (j1.2 3))), ((b1 4), .inl (G.2.1, 8, .inl (j1.2 4))), ((b1 5), .inl (G.2.1, 8, .inl (j1.2 5))), ((b1 6), .inl (G.2.1, 8, .inl (j1.2 6))), ((b1 7), .inl (G.2.1, 8, .inl (j1.2 7)))]) eX6_image_27 (ktX5_init l G q1) tc_40 (List.mem_of_getElem? (i := 1) rfl) tw_3 tw_39 rfl hdX5_init rfl ⟨Nat.le_of_ble_eq_true rfl, Nat.le_of_ble_eq_true rfl⟩ ⟨Nat.le_of_ble_eq_true rfl, Nat.le_of_ble_eq_true rfl⟩ rfl (Nat.le_of_ble_eq_true rfl) [18] [0, 1, 2, 3, 4, 5, 6, 7, 8, 9, 10, 11, 12, 13, 14, 15, 16, 17] rfl rfl rfl (by decide) (by decide) (fun v w1 hq => ?_)
  obtain ⟨rfl, q1_1, q2_1, q3_1, q4_1, q5_1, q6_1, q7_1, rfl⟩ := hq
  obtain ⟨BN, hBN⟩ : ∃ BN : Nat → Nat, BN = fun k => (([q1, q1_1, q2_1, q3_1, q4_1, q5_1, q6_1, q7_1] : List Nat).getD k 0) := ⟨_, rfl⟩
  refine V_weq (w' := [((A 0), .inr (6, [.ref (A 1), .ref (A 3), .ref (A 28), .ref (A 11), .ref (A 13), .ref (A 18), .ref (A 21), .ref (A 26), .ref (A 27)])), ((A 28), .inl (G.2.2.2.1, 2, .inr (.inr (.inr (.inr (wIr (none) (some (b1, j1)))))))), ((A 3), .inr (5, [.int (c.1 1), .int (c.1 2), .int (c.1 3), .int (c.1 4), .int (c.1 5), .int (c.1 6), .int (c.1 7), .int (c.1 8), .ref (A 4), .ref (A 5), .ref (A 6), .ref (A 7), .ref (A 8), .ref (A 9), .ref (A 10)])), ((A 4), .inl (G.2.1, 6, .inl (c.2 1))), ((A 5), .inl (G.2.1, 8, .inl (c.2 2))), ((A 6), .inl (G.2.1, 8, .inl (c.2 3))), ((A 7), .inl (G.2.1, 8, .inl (c.2 4))), ((A 8), .inl (G.2.1, 8, .inl (c.2 5))), ((A 9), .inl (G.2.1, 8, .inl (c.2 6))), ((A 10), .inl (G.2.1, 8, .inl (c.2 7))), ((b1 0), .inr (5, [.int (j1.1 1), .int (j1.1 2), .int (j1.1 3), .int (j1.1 4), .int (j1.1 5), .int (j1.1 6), .int (j1.1 7), .int (j1.1 8), .ref (b1 1), .ref (b1 2), .ref (b1 3), .ref (b1 4), .ref (b1 5), .ref (b1 6), .ref (b1 7)])), ((b1 1), .inl (G.2.1, 6, .inl (j1.2 1))), ((b1 2), .inl (G.2.1, 8, .inl (j1.2 2))), ((b1 3), .inl (G.2.1, 8, .inl (j1.2 3))), ((b1 4), .inl (G.2.1, 8, .inl (j1.2 4))), ((b1 5), .inl (G.2.1, 8, .inl (j1.2 5))), ((b1 6), .inl (G.2.1, 8, .inl (j1.2 6))), ((b1 7), .inl (G.2.1, 8, .inl (j1.2 7))), ((BN 0), .inr (5, [.int (tg_ini.1 1), .int (tg_ini.1 2), .int (tg_ini.1 3), .int (tg_ini.1 4), .int (tg_ini.1 5), .int (tg_ini.1 6), .int (tg_ini.1 7), .int (tg_ini.1 8), .ref (BN 1), .ref (BN 2), .ref (BN 3), .ref (BN 4), .ref (BN 5), .ref (BN 6), .ref (BN 7)])), ((BN 1), .inl (G.2.1, 6, .inl (tg_ini.2 1))), ((BN 2), .inl (G.2.1, 8, .inl (tg_ini.2 2))), ((BN 3), .inl (G.2.1, 8, .inl (tg_ini.2 3))), ((BN 4), .inl (G.2.1, 8, .inl (tg_ini.2 4))), ((BN 5), .inl (G.2.1, 8, .inl (tg_ini.2 5))), ((BN 6), .inl (G.2.1, 8, .inl (tg_ini.2 6))), ((BN 7), .inl (G.2.1, 8, .inl (tg_ini.2 7)))]) (by rw [hBN]; rfl) ?_
  refine V_steq (st' := [.ref (BN 0)]) (by rw [hBN]; rfl) ?_
  refine V_astore_n (lv' := [(2, .ref (BN 0)), (0, .ref (A 0)), (1, .int (0 : Int32))]) eX6_image_30 (Nat.le_of_ble_eq_true rfl) rfl ?_
  refine V_aload_n eX6_image_31 1 rfl ?_
  refine V_get (v := .ref (A 28)) eX6_image_32 inX6 0 rfl rfl 2 (Nat.le_of_ble_eq_true rfl) tw_209 rfl ?_
  refine V_iload_n eX6_image_35 2 rfl ?_
  refine V_aload_n eX6_image_36 0 rfl ?_
  refine V_aast (w' := [((A 0), .inr (6, [.ref (A 1), .ref (A 3), .ref (A 28), .ref (A 11), .ref (A 13), .ref (A 18), .ref (A 21), .ref (A 26), .ref (A 27)])), ((A 28), .inl (G.2.2.2.1, 2, .inr (.inr (.inr (.inr (va_up (wIr (none) (some (b1, j1))) ((0 : Int32)).toNatClampNeg (some (BN 0)))))))), ((A 3), .inr (5, [.int (c.1 1), .int (c.1 2), .int (c.1 3), .int (c.1 4), .int (c.1 5), .int (c.1 6), .int (c.1 7), .int (c.1 8), .ref (A 4), .ref (A 5), .ref (A 6), .ref (A 7), .ref (A 8), .ref (A 9), .ref (A 10)])), ((A 4), .inl (G.2.1, 6, .inl (c.2 1))), ((A 5), .inl (G.2.1, 8, .inl (c.2 2))), ((A 6), .inl (G.2.1, 8, .inl (c.2 3))), ((A 7), .inl (G.2.1, 8, .inl (c.2 4))), ((A 8), .inl (G.2.1, 8, .inl (c.2 5))), ((A 9), .inl (G.2.1, 8, .inl (c.2 6))), ((A 10), .inl (G.2.1, 8, .inl (c.2 7))), ((b1 0), .inr (5, [.int (j1.1 1), .int (j1.1 2), .int (j1.1 3), .int (j1.1 4), .int (j1.1 5), .int (j1.1 6), .int (j1.1 7), .int (j1.1 8), .ref (b1 1), .ref (b1 2), .ref (b1 3), .ref (b1 4), .ref (b1 5), .ref (b1 6), .ref (b1 7)])), ((b1 1), .inl (G.2.1, 6, .inl (j1.2 1))), ((b1 2), .inl (G.2.1, 8, .inl (j1.2 2))), ((b1 3), .inl (G.2.1, 8, .inl (j1.2 3))), ((b1 4), .inl (G.2.1, 8, .inl (j1.2 4))), ((b1 5), .inl (G.2.1, 8, .inl (j1.2 5))), ((b1 6), .inl (G.2.1, 8, .inl (j1.2 6))), ((b1 7), .inl (G.2.1, 8, .inl (j1.2 7))), ((BN 0), .inr (5, [.int (tg_ini.1 1), .int (tg_ini.1 2), .int (tg_ini.1 3), .int (tg_ini.1 4), .int (tg_ini.1 5), .int (tg_ini.1 6), .int (tg_ini.1 7), .int (tg_ini.1 8), .ref (BN 1), .ref (BN 2), .ref (BN 3), .ref (BN 4), .ref (BN 5), .ref (BN 6), .ref (BN 7)])), ((BN 1), .inl (G.2.1, 6, .inl (tg_ini.2 1))), ((BN 2), .inl (G.2.1, 8, .inl (tg_ini.2 2))), ((BN 3), .inl (G.2.1, 8, .inl (tg_ini.2 3))), ((BN 4), .inl (G.2.1, 8, .inl (tg_ini.2 4))), ((BN 5), .inl (G.2.1, 8, .inl (tg_ini.2 5))), ((BN 6), .inl (G.2.1, 8, .inl (tg_ini.2 6))), ((BN 7), .inl (G.2.1, 8, .inl (tg_ini.2 7)))]) eX6_image_37 1 18 rfl rfl (by unfold vp_in; decide) rfl ?_
  refine V_aload_n eX6_image_38 0 rfl ?_
  refine V_aload_n eX6_image_39 1 rfl ?_
  refine V_get (v := .ref (A 3)) eX6_image_40 inX6 0 rfl rfl 1 (Nat.le_of_ble_eq_true rfl) tw_208 rfl ?_
  refine V_callVF (rest := []) (wc := wW G BN tg_ini ++ wW G (fun j => A (3 + j)) c) (wr := [((A 0), .inr (6, [.ref (A 1), .ref (A 3), .ref (A 28), .ref (A 11), .ref (A 13), .ref (A 18), .ref (A 21), .ref (A 26), .ref (A 27)])), ((A 28), .inl (G.2.2.2.1, 2, .inr (.inr (.inr (.inr (va_up (wIr (none) (some (b1, j1))) ((0 : Int32)).toNatClampNeg (some (BN 0)))))))), ((b1 0), .inr (5, [.int (j1.1 1), .int (j1.1 2), .int (j1.1 3), .int (j1.1 4), .int (j1.1 5), .int (j1.1 6), .int (j1.1 7), .int (j1.1 8), .ref (b1 1), .ref (b1 2), .ref (b1 3), .ref (b1 4), .ref (b1 5), .ref (b1 6), .ref (b1 7)])), ((b1 1), .inl (G.2.1, 6, .inl (j1.2 1))), ((b1 2), .inl (G.2.1, 8, .inl (j1.2 2))), ((b1 3), .inl (G.2.1, 8, .inl (j1.2 3))), ((b1 4), .inl (G.2.1, 8, .inl (j1.2 4))), ((b1 5), .inl (G.2.1, 8, .inl (j1.2 5))), ((b1 6), .inl (G.2.1, 8, .inl (j1.2 6))), ((b1 7), .inl (G.2.1, 8, .inl (j1.2 7)))]) eX6_image_43 (kt_copyFrom l G BN (fun j => A (3 + j)) tg_ini c) tc_622 tw_619 tw_3 tw_620 tw_621 18 rfl rfl hdX5_copyFrom rfl ⟨Nat.le_of_ble_eq_true rfl, Nat.le_of_ble_eq_true rfl⟩ ⟨Nat.le_of_ble_eq_true rfl, Nat.le_of_ble_eq_true rfl⟩ rfl (Nat.le_of_ble_eq_true rfl) [18, 19, 20, 21, 22, 23, 24, 25, 2, 3, 4, 5, 6, 7, 8, 9] [0, 1, 10, 11, 12, 13, 14, 15, 16, 17] rfl rfl rfl rfl (by decide) (fun v w1 hq => ?_)
  obtain ⟨rfl, rfl⟩ := hq
  refine V_iconst (v := (1 : Int32)) eX6_image_46 rfl ?_
  refine V_w (w' := [((A 0), .inr (6, [.ref (A 1), .ref (A 3), .ref (A 28), .ref (A 11), .ref (A 13), .ref (A 18), .ref (A 21), .ref (A 26), .ref (A 27)])), ((A 28), .inl (G.2.2.2.1, 2, .inr (.inr (.inr (.inr (va_up (wIr (none) (some (b1, j1))) ((0 : Int32)).toNatClampNeg (some (BN 0)))))))), ((A 3), .inr (5, [.int (c.1 1), .int (c.1 2), .int (c.1 3), .int (c.1 4), .int (c.1 5), .int (c.1 6), .int (c.1 7), .int (c.1 8), .ref (A 4), .ref (A 5), .ref (A 6), .ref (A 7), .ref (A 8), .ref (A 9), .ref (A 10)])), ((A 4), .inl (G.2.1, 6, .inl (c.2 1))), ((A 5), .inl (G.2.1, 8, .inl (c.2 2))), ((A 6), .inl (G.2.1, 8, .inl (c.2 3))), ((A 7), .inl (G.2.1, 8, .inl (c.2 4))), ((A 8), .inl (G.2.1, 8, .inl (c.2 5))), ((A 9), .inl (G.2.1, 8, .inl (c.2 6))), ((A 10), .inl (G.2.1, 8, .inl (c.2 7))), ((BN 0), .inr (5, [.int ((cpW tg_ini c).1 1), .int ((cpW tg_ini c).1 2), .int ((cpW tg_ini c).1 3), .int ((cpW tg_ini c).1 4), .int ((cpW tg_ini c).1 5), .int ((cpW tg_ini c).1 6), .int ((cpW tg_ini c).1 7), .int ((cpW tg_ini c).1 8), .ref (BN 1), .ref (BN 2), .ref (BN 3), .ref (BN 4), .ref (BN 5), .ref (BN 6), .ref (BN 7)])), ((BN 1), .inl (G.2.1, 6, .inl ((cpW tg_ini c).2 1))), ((BN 2), .inl (G.2.1, 8, .inl ((cpW tg_ini c).2 2))), ((BN 3), .inl (G.2.1, 8, .inl ((cpW tg_ini c).2 3))), ((BN 4), .inl (G.2.1, 8, .inl ((cpW tg_ini c).2 4))), ((BN 5), .inl (G.2.1, 8, .inl ((cpW tg_ini c).2 5))), ((BN 6), .inl (G.2.1, 8, .inl ((cpW tg_ini c).2 6))), ((BN 7), .inl (G.2.1, 8, .inl ((cpW tg_ini c).2 7))), ((b1 0), .inr (5, [.int (j1.1 1), .int (j1.1 2), .int (j1.1 3), .int (j1.1 4), .int (j1.1 5), .int (j1.1 6), .int (j1.1 7), .int (j1.1 8), .ref (b1 1), .ref (b1 2), .ref (b1 3), .ref (b1 4), .ref (b1 5), .ref (b1 6), .ref (b1 7)])), ((b1 1), .inl (G.2.1, 6, .inl (j1.2 1))), ((b1 2), .inl (G.2.1, 8, .inl (j1.2 2))), ((b1 3), .inl (G.2.1, 8, .inl (j1.2 3))), ((b1 4), .inl (G.2.1, 8, .inl (j1.2 4))), ((b1 5), .inl (G.2.1, 8, .inl (j1.2 5))), ((b1 6), .inl (G.2.1, 8, .inl (j1.2 6))), ((b1 7), .inl (G.2.1, 8, .inl (j1.2 7)))]) [0, 1, 18, 19, 20, 21, 22, 23, 24, 25, 10, 11, 12, 13, 14, 15, 16, 17, 2, 3, 4, 5, 6, 7, 8, 9] (by decide) rfl ?_
  refine V_weq (w' := [((A 0), .inr (6, [.ref (A 1), .ref (A 3), .ref (A 28), .ref (A 11), .ref (A 13), .ref (A 18), .ref (A 21), .ref (A 26), .ref (A 27)])), ((A 28), .inl (G.2.2.2.1, 2, .inr (.inr (.inr (.inr (wIr (some (BN, cpW tg_ini c)) (some (b1, j1)))))))), ((A 3), .inr (5, [.int (c.1 1), .int (c.1 2), .int (c.1 3), .int (c.1 4), .int (c.1 5), .int (c.1 6), .int (c.1 7), .int (c.1 8), .ref (A 4), .ref (A 5), .ref (A 6), .ref (A 7), .ref (A 8), .ref (A 9), .ref (A 10)])), ((A 4), .inl (G.2.1, 6, .inl (c.2 1))), ((A 5), .inl (G.2.1, 8, .inl (c.2 2))), ((A 6), .inl (G.2.1, 8, .inl (c.2 3))), ((A 7), .inl (G.2.1, 8, .inl (c.2 4))), ((A 8), .inl (G.2.1, 8, .inl (c.2 5))), ((A 9), .inl (G.2.1, 8, .inl (c.2 6))), ((A 10), .inl (G.2.1, 8, .inl (c.2 7))), ((BN 0), .inr (5, [.int ((cpW tg_ini c).1 1), .int ((cpW tg_ini c).1 2), .int ((cpW tg_ini c).1 3), .int ((cpW tg_ini c).1 4), .int ((cpW tg_ini c).1 5), .int ((cpW tg_ini c).1 6), .int ((cpW tg_ini c).1 7), .int ((cpW tg_ini c).1 8), .ref (BN 1), .ref (BN 2), .ref (BN 3), .ref (BN 4), .ref (BN 5), .ref (BN 6), .ref (BN 7)])), ((BN 1), .inl (G.2.1, 6, .inl ((cpW tg_ini c).2 1))), ((BN 2), .inl (G.2.1, 8, .inl ((cpW tg_ini c).2 2))), ((BN 3), .inl (G.2.1, 8, .inl ((cpW tg_ini c).2 3))), ((BN 4), .inl (G.2.1, 8, .inl ((cpW tg_ini c).2 4))), ((BN 5), .inl (G.2.1, 8, .inl ((cpW tg_ini c).2 5))), ((BN 6), .inl (G.2.1, 8, .inl ((cpW tg_ini c).2 6))), ((BN 7), .inl (G.2.1, 8, .inl ((cpW tg_ini c).2 7))), ((b1 0), .inr (5, [.int (j1.1 1), .int (j1.1 2), .int (j1.1 3), .int (j1.1 4), .int (j1.1 5), .int (j1.1 6), .int (j1.1 7), .int (j1.1 8), .ref (b1 1), .ref (b1 2), .ref (b1 3), .ref (b1 4), .ref (b1 5), .ref (b1 6), .ref (b1 7)])), ((b1 1), .inl (G.2.1, 6, .inl (j1.2 1))), ((b1 2), .inl (G.2.1, 8, .inl (j1.2 2))), ((b1 3), .inl (G.2.1, 8, .inl (j1.2 3))), ((b1 4), .inl (G.2.1, 8, .inl (j1.2 4))), ((b1 5), .inl (G.2.1, 8, .inl (j1.2 5))), ((b1 6), .inl (G.2.1, 8, .inl (j1.2 6))), ((b1 7), .inl (G.2.1, 8, .inl (j1.2 7)))]) (by rw [wIr_up0]) ?_
  exact V_ret eX6_image_47 rfl ⟨rfl, BN, rfl⟩
set_option maxRecDepth 20000 in
theorem kt_image_010 (l : Launch) (G : tg_G) (A : Nat → Nat) (c : SS) (b0 : Nat → Nat) (j0 : SS) : Mt l G yX6_image cX6_image 3 (some .int) (tg_R 2 100) [.ref (A 0), .int (0 : Int32)] (wX G A c (some (b0, j0)) (none)) (fun v w1 => v = some (.int 1) ∧ w1 = wX G A c (some (b0, cpW j0 c)) (none)) := by
  refine Mt_of2 (own := "TramGod") (nm := "image") rfl rfl rfl (Nat.le_of_ble_eq_true rfl) (lv := [(0, .ref (A 0)), (1, .int (0 : Int32))]) rfl ?_
  refine V_iload_n eX6_image_0 1 rfl ?_
  refine V_iconst (v := (0 : Int32)) eX6_image_1 rfl ?_
  refine V_iconst (v := (1 : Int32)) eX6_image_2 rfl ?_
  refine V_callSi (rest := []) eX6_image_3 (ctX6_within l G _ (0 : Int32) (0 : Int32) (1 : Int32) rfl) tc_241 tw_239 tw_1 tw_240 hdX6_within rfl ⟨Nat.le_of_ble_eq_true rfl, Nat.le_of_ble_eq_true rfl⟩ rfl (Nat.le_of_ble_eq_true rfl) ⟨Nat.zero_le _, Nat.zero_le _⟩ ?_
  refine V_if_ne (tgt := 12) eX6_image_6 rfl (fun _ => ?_) (fun hb => absurd hb (by decide))
  refine V_aload_n eX6_image_12 0 rfl ?_
  refine V_get (v := .ref (A 28)) eX6_image_13 inX6 0 rfl rfl 2 (Nat.le_of_ble_eq_true rfl) tw_209 rfl ?_
  refine V_iload_n eX6_image_16 1 rfl ?_
  refine V_aald (v := .ref (b0 0)) eX6_image_17 1 rfl (by unfold vp_in; decide) rfl ?_
  refine V_astore_n (lv' := [(2, .ref (b0 0)), (0, .ref (A 0)), (1, .int (0 : Int32))]) eX6_image_18 (Nat.le_of_ble_eq_true rfl) rfl ?_
  refine V_aload_n eX6_image_19 0 rfl ?_
  refine V_ifnonnull (tgt := 38) eX6_image_20 rfl ?_
  refine V_aload_n eX6_image_38 0 rfl ?_
  refine V_aload_n eX6_image_39 1 rfl ?_
  refine V_get (v := .ref (A 3)) eX6_image_40 inX6 0 rfl rfl 1 (Nat.le_of_ble_eq_true rfl) tw_208 rfl ?_
  refine V_callVF (rest := []) (wc := wW G b0 j0 ++ wW G (fun j => A (3 + j)) c) (wr := [((A 0), .inr (6, [.ref (A 1), .ref (A 3), .ref (A 28), .ref (A 11), .ref (A 13), .ref (A 18), .ref (A 21), .ref (A 26), .ref (A 27)])), ((A 28), .inl (G.2.2.2.1, 2, .inr (.inr (.inr (.inr (wIr (some (b0, j0)) (none)))))))]) eX6_image_43 (kt_copyFrom l G b0 (fun j => A (3 + j)) j0 c) tc_622 tw_619 tw_3 tw_620 tw_621 10 rfl rfl hdX5_copyFrom rfl ⟨Nat.le_of_ble_eq_true rfl, Nat.le_of_ble_eq_true rfl⟩ ⟨Nat.le_of_ble_eq_true rfl, Nat.le_of_ble_eq_true rfl⟩ rfl (Nat.le_of_ble_eq_true rfl) [10, 11, 12, 13, 14, 15, 16, 17, 2, 3, 4, 5, 6, 7, 8, 9] [0, 1] rfl rfl rfl rfl (by decide) (fun v w1 hq => ?_)
  obtain ⟨rfl, rfl⟩ := hq
  refine V_iconst (v := (1 : Int32)) eX6_image_46 rfl ?_
  refine V_w (w' := [((A 0), .inr (6, [.ref (A 1), .ref (A 3), .ref (A 28), .ref (A 11), .ref (A 13), .ref (A 18), .ref (A 21), .ref (A 26), .ref (A 27)])), ((A 28), .inl (G.2.2.2.1, 2, .inr (.inr (.inr (.inr (wIr (some (b0, j0)) (none))))))), ((A 3), .inr (5, [.int (c.1 1), .int (c.1 2), .int (c.1 3), .int (c.1 4), .int (c.1 5), .int (c.1 6), .int (c.1 7), .int (c.1 8), .ref (A 4), .ref (A 5), .ref (A 6), .ref (A 7), .ref (A 8), .ref (A 9), .ref (A 10)])), ((A 4), .inl (G.2.1, 6, .inl (c.2 1))), ((A 5), .inl (G.2.1, 8, .inl (c.2 2))), ((A 6), .inl (G.2.1, 8, .inl (c.2 3))), ((A 7), .inl (G.2.1, 8, .inl (c.2 4))), ((A 8), .inl (G.2.1, 8, .inl (c.2 5))), ((A 9), .inl (G.2.1, 8, .inl (c.2 6))), ((A 10), .inl (G.2.1, 8, .inl (c.2 7))), ((b0 0), .inr (5, [.int ((cpW j0 c).1 1), .int ((cpW j0 c).1 2), .int ((cpW j0 c).1 3), .int ((cpW j0 c).1 4), .int ((cpW j0 c).1 5), .int ((cpW j0 c).1 6), .int ((cpW j0 c).1 7), .int ((cpW j0 c).1 8), .ref (b0 1), .ref (b0 2), .ref (b0 3), .ref (b0 4), .ref (b0 5), .ref (b0 6), .ref (b0 7)])), ((b0 1), .inl (G.2.1, 6, .inl ((cpW j0 c).2 1))), ((b0 2), .inl (G.2.1, 8, .inl ((cpW j0 c).2 2))), ((b0 3), .inl (G.2.1, 8, .inl ((cpW j0 c).2 3))), ((b0 4), .inl (G.2.1, 8, .inl ((cpW j0 c).2 4))), ((b0 5), .inl (G.2.1, 8, .inl ((cpW j0 c).2 5))), ((b0 6), .inl (G.2.1, 8, .inl ((cpW j0 c).2 6))), ((b0 7), .inl (G.2.1, 8, .inl ((cpW j0 c).2 7)))]) [0, 1, 10, 11, 12, 13, 14, 15, 16, 17, 2, 3, 4, 5, 6, 7, 8, 9] (by decide) rfl ?_
  exact V_ret eX6_image_47 rfl ⟨rfl, rfl⟩
set_option maxRecDepth 20000 in
theorem kt_image_011 (l : Launch) (G : tg_G) (A : Nat → Nat) (c : SS) (b0 : Nat → Nat) (j0 : SS) (b1 : Nat → Nat) (j1 : SS) : Mt l G yX6_image cX6_image 3 (some .int) (tg_R 2 100) [.ref (A 0), .int (0 : Int32)] (wX G A c (some (b0, j0)) (some (b1, j1))) (fun v w1 => v = some (.int 1) ∧ w1 = wX G A c (some (b0, cpW j0 c)) (some (b1, j1))) := by
  refine Mt_of2 (own := "TramGod") (nm := "image") rfl rfl rfl (Nat.le_of_ble_eq_true rfl) (lv := [(0, .ref (A 0)), (1, .int (0 : Int32))]) rfl ?_
  refine V_iload_n eX6_image_0 1 rfl ?_
  refine V_iconst (v := (0 : Int32)) eX6_image_1 rfl ?_
  refine V_iconst (v := (1 : Int32)) eX6_image_2 rfl ?_
  refine V_callSi (rest := []) eX6_image_3 (ctX6_within l G _ (0 : Int32) (0 : Int32) (1 : Int32) rfl) tc_241 tw_239 tw_1 tw_240 hdX6_within rfl ⟨Nat.le_of_ble_eq_true rfl, Nat.le_of_ble_eq_true rfl⟩ rfl (Nat.le_of_ble_eq_true rfl) ⟨Nat.zero_le _, Nat.zero_le _⟩ ?_
  refine V_if_ne (tgt := 12) eX6_image_6 rfl (fun _ => ?_) (fun hb => absurd hb (by decide))
  refine V_aload_n eX6_image_12 0 rfl ?_
  refine V_get (v := .ref (A 28)) eX6_image_13 inX6 0 rfl rfl 2 (Nat.le_of_ble_eq_true rfl) tw_209 rfl ?_
  refine V_iload_n eX6_image_16 1 rfl ?_
  refine V_aald (v := .ref (b0 0)) eX6_image_17 1 rfl (by unfold vp_in; decide) rfl ?_
  refine V_astore_n (lv' := [(2, .ref (b0 0)), (0, .ref (A 0)), (1, .int (0 : Int32))]) eX6_image_18 (Nat.le_of_ble_eq_true rfl) rfl ?_
  refine V_aload_n eX6_image_19 0 rfl ?_
  refine V_ifnonnull (tgt := 38) eX6_image_20 rfl ?_
  refine V_aload_n eX6_image_38 0 rfl ?_
  refine V_aload_n eX6_image_39 1 rfl ?_
  refine V_get (v := .ref (A 3)) eX6_image_40 inX6 0 rfl rfl 1 (Nat.le_of_ble_eq_true rfl) tw_208 rfl ?_
  refine V_callVF (rest := []) (wc := wW G b0 j0 ++ wW G (fun j => A (3 + j)) c) (wr := [((A 0), .inr (6, [.ref (A 1), .ref (A 3), .ref (A 28), .ref (A 11), .ref (A 13), .ref (A 18), .ref (A 21), .ref (A 26), .ref (A 27)])), ((A 28), .inl (G.2.2.2.1, 2, .inr (.inr (.inr (.inr (wIr (some (b0, j0)) (some (b1, j1)))))))), ((b1 0), .inr (5, [.int (j1.1 1), .int (j1.1 2), .int (j1.1 3), .int (j1.1 4), .int (j1.1 5), .int (j1.1 6), .int (j1.1 7), .int (j1.1 8), .ref (b1 1), .ref (b1 2), .ref (b1 3), .ref (b1 4), .ref (b1 5), .ref (b1 6), .ref (b1 7)])), ((b1 1), .inl (G.2.1, 6, .inl (j1.2 1))), ((b1 2), .inl (G.2.1, 8, .inl (j1.2 2))), ((b1 3), .inl (G.2.1, 8, .inl (j1.2 3))), ((b1 4), .inl (G.2.1, 8, .inl (j1.2 4))), ((b1 5), .inl (G.2.1, 8, .inl (j1.2 5))), ((b1 6), .inl (G.2.1, 8, .inl (j1.2 6))), ((b1 7), .inl (G.2.1, 8, .inl (j1.2 7)))]) eX6_image_43 (kt_copyFrom l G b0 (fun j => A (3 + j)) j0 c) tc_622 tw_619 tw_3 tw_620 tw_621 10 rfl rfl hdX5_copyFrom rfl ⟨Nat.le_of_ble_eq_true rfl, Nat.le_of_ble_eq_true rfl⟩ ⟨Nat.le_of_ble_eq_true rfl, Nat.le_of_ble_eq_true rfl⟩ rfl (Nat.le_of_ble_eq_true rfl) [10, 11, 12, 13, 14, 15, 16, 17, 2, 3, 4, 5, 6, 7, 8, 9] [0, 1, 18, 19, 20, 21, 22, 23, 24, 25] rfl rfl rfl rfl (by decide) (fun v w1 hq => ?_)
  obtain ⟨rfl, rfl⟩ := hq
  refine V_iconst (v := (1 : Int32)) eX6_image_46 rfl ?_
  refine V_w (w' := [((A 0), .inr (6, [.ref (A 1), .ref (A 3), .ref (A 28), .ref (A 11), .ref (A 13), .ref (A 18), .ref (A 21), .ref (A 26), .ref (A 27)])), ((A 28), .inl (G.2.2.2.1, 2, .inr (.inr (.inr (.inr (wIr (some (b0, j0)) (some (b1, j1)))))))), ((A 3), .inr (5, [.int (c.1 1), .int (c.1 2), .int (c.1 3), .int (c.1 4), .int (c.1 5), .int (c.1 6), .int (c.1 7), .int (c.1 8), .ref (A 4), .ref (A 5), .ref (A 6), .ref (A 7), .ref (A 8), .ref (A 9), .ref (A 10)])), ((A 4), .inl (G.2.1, 6, .inl (c.2 1))), ((A 5), .inl (G.2.1, 8, .inl (c.2 2))), ((A 6), .inl (G.2.1, 8, .inl (c.2 3))), ((A 7), .inl (G.2.1, 8, .inl (c.2 4))), ((A 8), .inl (G.2.1, 8, .inl (c.2 5))), ((A 9), .inl (G.2.1, 8, .inl (c.2 6))), ((A 10), .inl (G.2.1, 8, .inl (c.2 7))), ((b0 0), .inr (5, [.int ((cpW j0 c).1 1), .int ((cpW j0 c).1 2), .int ((cpW j0 c).1 3), .int ((cpW j0 c).1 4), .int ((cpW j0 c).1 5), .int ((cpW j0 c).1 6), .int ((cpW j0 c).1 7), .int ((cpW j0 c).1 8), .ref (b0 1), .ref (b0 2), .ref (b0 3), .ref (b0 4), .ref (b0 5), .ref (b0 6), .ref (b0 7)])), ((b0 1), .inl (G.2.1, 6, .inl ((cpW j0 c).2 1))), ((b0 2), .inl (G.2.1, 8, .inl ((cpW j0 c).2 2))), ((b0 3), .inl (G.2.1, 8, .inl ((cpW j0 c).2 3))), ((b0 4), .inl (G.2.1, 8, .inl ((cpW j0 c).2 4))), ((b0 5), .inl (G.2.1, 8, .inl ((cpW j0 c).2 5))), ((b0 6), .inl (G.2.1, 8, .inl ((cpW j0 c).2 6))), ((b0 7), .inl (G.2.1, 8, .inl ((cpW j0 c).2 7))), ((b1 0), .inr (5, [.int (j1.1 1), .int (j1.1 2), .int (j1.1 3), .int (j1.1 4), .int (j1.1 5), .int (j1.1 6), .int (j1.1 7), .int (j1.1 8), .ref (b1 1), .ref (b1 2), .ref (b1 3), .ref (b1 4), .ref (b1 5), .ref (b1 6), .ref (b1 7)])), ((b1 1), .inl (G.2.1, 6, .inl (j1.2 1))), ((b1 2), .inl (G.2.1, 8, .inl (j1.2 2))), ((b1 3), .inl (G.2.1, 8, .inl (j1.2 3))), ((b1 4), .inl (G.2.1, 8, .inl (j1.2 4))), ((b1 5), .inl (G.2.1, 8, .inl (j1.2 5))), ((b1 6), .inl (G.2.1, 8, .inl (j1.2 6))), ((b1 7), .inl (G.2.1, 8, .inl (j1.2 7)))]) [0, 1, 18, 19, 20, 21, 22, 23, 24, 25, 10, 11, 12, 13, 14, 15, 16, 17, 2, 3, 4, 5, 6, 7, 8, 9] (by decide) rfl ?_
  exact V_ret eX6_image_47 rfl ⟨rfl, rfl⟩
set_option maxRecDepth 20000 in
theorem kt_image_100 (l : Launch) (G : tg_G) (A : Nat → Nat) (c : SS) : Mt l G yX6_image cX6_image 3 (some .int) ({ frames := 2, cells := 8, slots := 69, locals := 100 } : Room) [.ref (A 0), .int (1 : Int32)] (wX G A c (none) (none)) (fun v w1 => v = some (.int 1) ∧ ∃ BN : Nat → Nat, w1 = wX G A c (none) (some (BN, cpW tg_ini c))) := by
  refine Mt_of2 (own := "TramGod") (nm := "image") rfl rfl rfl (Nat.le_of_ble_eq_true rfl) (lv := [(0, .ref (A 0)), (1, .int (1 : Int32))]) rfl ?_
  refine V_iload_n eX6_image_0 1 rfl ?_
  refine V_iconst (v := (0 : Int32)) eX6_image_1 rfl ?_
  refine V_iconst (v := (1 : Int32)) eX6_image_2 rfl ?_
  refine V_callSi (rest := []) eX6_image_3 (ctX6_within l G _ (1 : Int32) (0 : Int32) (1 : Int32) rfl) tc_241 tw_239 tw_1 tw_240 hdX6_within rfl ⟨Nat.le_of_ble_eq_true rfl, Nat.le_of_ble_eq_true rfl⟩ rfl (Nat.le_of_ble_eq_true rfl) ⟨Nat.zero_le _, Nat.zero_le _⟩ ?_
  refine V_if_ne (tgt := 12) eX6_image_6 rfl (fun _ => ?_) (fun hb => absurd hb (by decide))
  refine V_aload_n eX6_image_12 0 rfl ?_
  refine V_get (v := .ref (A 28)) eX6_image_13 inX6 0 rfl rfl 2 (Nat.le_of_ble_eq_true rfl) tw_209 rfl ?_
  refine V_iload_n eX6_image_16 1 rfl ?_
  refine V_aald (v := .null) eX6_image_17 1 rfl (by unfold vp_in; decide) rfl ?_
  refine V_astore_nN (lv' := [(2, .null), (0, .ref (A 0)), (1, .int (1 : Int32))]) eX6_image_18 (Nat.le_of_ble_eq_true rfl) rfl ?_
  refine V_aload_nN eX6_image_19 0 rfl ?_
  refine V_ifnonnullN eX6_image_20 ?_
  refine V_new tyX5 [.int 0, .int 0, .int 0, .int 0, .int 0, .int 0, .int 0, .int 0, .null, .null, .null, .null, .null, .null, .null] eX6_image_23 inX5 tyX5_ok tw_36 tw_37 tw_3 (ci := 5) rfl (by decide +kernel) (Nat.le_of_ble_eq_true rfl) (Nat.le_of_ble_eq_true rfl) (fun q1 => ?_)
  refine V_dup eX6_image_26 rfl ?_
  refine V_callINF (rest := [.ref q1]) (wc := [(q1, .inr (5, [.int 0, .int 0, .int 0, .int 0, .int 0, .int 0, .int 0, .int 0, .null, .null, .null, .null, .null, .null, .null]))]) (wr := [((A 0), .inr (6, [.ref (A 1), .ref (A 3), .ref (A 28), .ref (A 11), .ref (A 13), .ref (A 18), .ref (A 21), .ref (A 26), .ref (A 27)])), ((A 28), .inl (G.2.2.2.1, 2, .inr (.inr (.inr (.inr (wIr (none) (none))))))), ((A 3), .inr (5, [.int (c.1 1), .int (c.1 2), .int (c.1 3), .int (c.1 4), .int (c.1 5), .int (c.1 6), .int (c.1 7), .int (c.1 8), .ref (A 4), .ref (A 5), .ref (A 6), .ref (A 7), .ref (A 8), .ref (A 9), .ref (A 10)])), ((A 4), .inl (G.2.1, 6, .inl (c.2 1))), ((A 5), .inl (G.2.1, 8, .inl (c.2 2))), ((A 6), .inl (G.2.1, 8, .inl (c.2 3))), ((A 7), .inl (G.2.1, 8, .inl (c.2 4))), ((A 8), .inl (G.2.1, 8, .inl (c.2 5))), ((A 9), .inl (G.2.1, 8, .inl (c.2 6))), ((A 10), .inl (G.2.1, 8, .inl (c.2 7)))]) eX6_image_27 (ktX5_init l G q1) tc_40 (List.mem_of_getElem? (i := 1) rfl) tw_3 tw_39 rfl hdX5_init rfl ⟨Nat.le_of_ble_eq_true rfl, Nat.le_of_ble_eq_true rfl⟩ ⟨Nat.le_of_ble_eq_true rfl, Nat.le_of_ble_eq_true rfl⟩ rfl (Nat.le_of_ble_eq_true rfl) [10] [0, 1, 2, 3, 4, 5, 6, 7, 8, 9] rfl rfl rfl (by decide) (by decide) (fun v w1 hq => ?_)
  obtain ⟨rfl, q1_1, q2_1, q3_1, q4_1, q5_1, q6_1, q7_1, rfl⟩ := hq
  obtain ⟨BN, hBN⟩ : ∃ BN : Nat → Nat, BN = fun k => (([q1, q1_1, q2_1, q3_1, q4_1, q5_1, q6_1, q7_1] : List Nat).getD k 0) := ⟨_, rfl⟩
  refine V_weq (w' := [((A 0), .inr (6, [.ref (A 1), .ref (A 3), .ref (A 28), .ref (A 11), .ref (A 13), .ref (A 18), .ref (A 21), .ref (A 26), .ref (A 27)])), ((A 28), .inl (G.2.2.2.1, 2, .inr (.inr (.inr (.inr (wIr (none) (none))))))), ((A 3), .inr (5, [.int (c.1 1), .int (c.1 2), .int (c.1 3), .int (c.1 4), .int (c.1 5), .int (c.1 6), .int (c.1 7), .int (c.1 8), .ref (A 4), .ref (A 5), .ref (A 6), .ref (A 7), .ref (A 8), .ref (A 9), .ref (A 10)])), ((A 4), .inl (G.2.1, 6, .inl (c.2 1))), ((A 5), .inl (G.2.1, 8, .inl (c.2 2))), ((A 6), .inl (G.2.1, 8, .inl (c.2 3))), ((A 7), .inl (G.2.1, 8, .inl (c.2 4))), ((A 8), .inl (G.2.1, 8, .inl (c.2 5))), ((A 9), .inl (G.2.1, 8, .inl (c.2 6))), ((A 10), .inl (G.2.1, 8, .inl (c.2 7))), ((BN 0), .inr (5, [.int (tg_ini.1 1), .int (tg_ini.1 2), .int (tg_ini.1 3), .int (tg_ini.1 4), .int (tg_ini.1 5), .int (tg_ini.1 6), .int (tg_ini.1 7), .int (tg_ini.1 8), .ref (BN 1), .ref (BN 2), .ref (BN 3), .ref (BN 4), .ref (BN 5), .ref (BN 6), .ref (BN 7)])), ((BN 1), .inl (G.2.1, 6, .inl (tg_ini.2 1))), ((BN 2), .inl (G.2.1, 8, .inl (tg_ini.2 2))), ((BN 3), .inl (G.2.1, 8, .inl (tg_ini.2 3))), ((BN 4), .inl (G.2.1, 8, .inl (tg_ini.2 4))), ((BN 5), .inl (G.2.1, 8, .inl (tg_ini.2 5))), ((BN 6), .inl (G.2.1, 8, .inl (tg_ini.2 6))), ((BN 7), .inl (G.2.1, 8, .inl (tg_ini.2 7)))]) (by rw [hBN]; rfl) ?_
  refine V_steq (st' := [.ref (BN 0)]) (by rw [hBN]; rfl) ?_
  refine V_astore_n (lv' := [(2, .ref (BN 0)), (0, .ref (A 0)), (1, .int (1 : Int32))]) eX6_image_30 (Nat.le_of_ble_eq_true rfl) rfl ?_
  refine V_aload_n eX6_image_31 1 rfl ?_
  refine V_get (v := .ref (A 28)) eX6_image_32 inX6 0 rfl rfl 2 (Nat.le_of_ble_eq_true rfl) tw_209 rfl ?_
  refine V_iload_n eX6_image_35 2 rfl ?_
  refine V_aload_n eX6_image_36 0 rfl ?_
  refine V_aast (w' := [((A 0), .inr (6, [.ref (A 1), .ref (A 3), .ref (A 28), .ref (A 11), .ref (A 13), .ref (A 18), .ref (A 21), .ref (A 26), .ref (A 27)])), ((A 28), .inl (G.2.2.2.1, 2, .inr (.inr (.inr (.inr (va_up (wIr (none) (none)) ((1 : Int32)).toNatClampNeg (some (BN 0)))))))), ((A 3), .inr (5, [.int (c.1 1), .int (c.1 2), .int (c.1 3), .int (c.1 4), .int (c.1 5), .int (c.1 6), .int (c.1 7), .int (c.1 8), .ref (A 4), .ref (A 5), .ref (A 6), .ref (A 7), .ref (A 8), .ref (A 9), .ref (A 10)])), ((A 4), .inl (G.2.1, 6, .inl (c.2 1))), ((A 5), .inl (G.2.1, 8, .inl (c.2 2))), ((A 6), .inl (G.2.1, 8, .inl (c.2 3))), ((A 7), .inl (G.2.1, 8, .inl (c.2 4))), ((A 8), .inl (G.2.1, 8, .inl (c.2 5))), ((A 9), .inl (G.2.1, 8, .inl (c.2 6))), ((A 10), .inl (G.2.1, 8, .inl (c.2 7))), ((BN 0), .inr (5, [.int (tg_ini.1 1), .int (tg_ini.1 2), .int (tg_ini.1 3), .int (tg_ini.1 4), .int (tg_ini.1 5), .int (tg_ini.1 6), .int (tg_ini.1 7), .int (tg_ini.1 8), .ref (BN 1), .ref (BN 2), .ref (BN 3), .ref (BN 4), .ref (BN 5), .ref (BN 6), .ref (BN 7)])), ((BN 1), .inl (G.2.1, 6, .inl (tg_ini.2 1))), ((BN 2), .inl (G.2.1, 8, .inl (tg_ini.2 2))), ((BN 3), .inl (G.2.1, 8, .inl (tg_ini.2 3))), ((BN 4), .inl (G.2.1, 8, .inl (tg_ini.2 4))), ((BN 5), .inl (G.2.1, 8, .inl (tg_ini.2 5))), ((BN 6), .inl (G.2.1, 8, .inl (tg_ini.2 6))), ((BN 7), .inl (G.2.1, 8, .inl (tg_ini.2 7)))]) eX6_image_37 1 10 rfl rfl (by unfold vp_in; decide) rfl ?_
  refine V_aload_n eX6_image_38 0 rfl ?_
  refine V_aload_n eX6_image_39 1 rfl ?_
  refine V_get (v := .ref (A 3)) eX6_image_40 inX6 0 rfl rfl 1 (Nat.le_of_ble_eq_true rfl) tw_208 rfl ?_
  refine V_callVF (rest := []) (wc := wW G BN tg_ini ++ wW G (fun j => A (3 + j)) c) (wr := [((A 0), .inr (6, [.ref (A 1), .ref (A 3), .ref (A 28), .ref (A 11), .ref (A 13), .ref (A 18), .ref (A 21), .ref (A 26), .ref (A 27)])), ((A 28), .inl (G.2.2.2.1, 2, .inr (.inr (.inr (.inr (va_up (wIr (none) (none)) ((1 : Int32)).toNatClampNeg (some (BN 0))))))))]) eX6_image_43 (kt_copyFrom l G BN (fun j => A (3 + j)) tg_ini c) tc_622 tw_619 tw_3 tw_620 tw_621 10 rfl rfl hdX5_copyFrom rfl ⟨Nat.le_of_ble_eq_true rfl, Nat.le_of_ble_eq_true rfl⟩ ⟨Nat.le_of_ble_eq_true rfl, Nat.le_of_ble_eq_true rfl⟩ rfl (Nat.le_of_ble_eq_true rfl) [10, 11, 12, 13, 14, 15, 16, 17, 2, 3, 4, 5, 6, 7, 8, 9] [0, 1] rfl rfl rfl rfl (by decide) (fun v w1 hq => ?_)
  obtain ⟨rfl, rfl⟩ := hq
  refine V_iconst (v := (1 : Int32)) eX6_image_46 rfl ?_
  refine V_w (w' := [((A 0), .inr (6, [.ref (A 1), .ref (A 3), .ref (A 28), .ref (A 11), .ref (A 13), .ref (A 18), .ref (A 21), .ref (A 26), .ref (A 27)])), ((A 28), .inl (G.2.2.2.1, 2, .inr (.inr (.inr (.inr (va_up (wIr (none) (none)) ((1 : Int32)).toNatClampNeg (some (BN 0)))))))), ((A 3), .inr (5, [.int (c.1 1), .int (c.1 2), .int (c.1 3), .int (c.1 4), .int (c.1 5), .int (c.1 6), .int (c.1 7), .int (c.1 8), .ref (A 4), .ref (A 5), .ref (A 6), .ref (A 7), .ref (A 8), .ref (A 9), .ref (A 10)])), ((A 4), .inl (G.2.1, 6, .inl (c.2 1))), ((A 5), .inl (G.2.1, 8, .inl (c.2 2))), ((A 6), .inl (G.2.1, 8, .inl (c.2 3))), ((A 7), .inl (G.2.1, 8, .inl (c.2 4))), ((A 8), .inl (G.2.1, 8, .inl (c.2 5))), ((A 9), .inl (G.2.1, 8, .inl (c.2 6))), ((A 10), .inl (G.2.1, 8, .inl (c.2 7))), ((BN 0), .inr (5, [.int ((cpW tg_ini c).1 1), .int ((cpW tg_ini c).1 2), .int ((cpW tg_ini c).1 3), .int ((cpW tg_ini c).1 4), .int ((cpW tg_ini c).1 5), .int ((cpW tg_ini c).1 6), .int ((cpW tg_ini c).1 7), .int ((cpW tg_ini c).1 8), .ref (BN 1), .ref (BN 2), .ref (BN 3), .ref (BN 4), .ref (BN 5), .ref (BN 6), .ref (BN 7)])), ((BN 1), .inl (G.2.1, 6, .inl ((cpW tg_ini c).2 1))), ((BN 2), .inl (G.2.1, 8, .inl ((cpW tg_ini c).2 2))), ((BN 3), .inl (G.2.1, 8, .inl ((cpW tg_ini c).2 3))), ((BN 4), .inl (G.2.1, 8, .inl ((cpW tg_ini c).2 4))), ((BN 5), .inl (G.2.1, 8, .inl ((cpW tg_ini c).2 5))), ((BN 6), .inl (G.2.1, 8, .inl ((cpW tg_ini c).2 6))), ((BN 7), .inl (G.2.1, 8, .inl ((cpW tg_ini c).2 7)))]) [0, 1, 10, 11, 12, 13, 14, 15, 16, 17, 2, 3, 4, 5, 6, 7, 8, 9] (by decide) rfl ?_
  refine V_weq (w' := [((A 0), .inr (6, [.ref (A 1), .ref (A 3), .ref (A 28), .ref (A 11), .ref (A 13), .ref (A 18), .ref (A 21), .ref (A 26), .ref (A 27)])), ((A 28), .inl (G.2.2.2.1, 2, .inr (.inr (.inr (.inr (wIr (none) (some (BN, cpW tg_ini c)))))))), ((A 3), .inr (5, [.int (c.1 1), .int (c.1 2), .int (c.1 3), .int (c.1 4), .int (c.1 5), .int (c.1 6), .int (c.1 7), .int (c.1 8), .ref (A 4), .ref (A 5), .ref (A 6), .ref (A 7), .ref (A 8), .ref (A 9), .ref (A 10)])), ((A 4), .inl (G.2.1, 6, .inl (c.2 1))), ((A 5), .inl (G.2.1, 8, .inl (c.2 2))), ((A 6), .inl (G.2.1, 8, .inl (c.2 3))), ((A 7), .inl (G.2.1, 8, .inl (c.2 4))), ((A 8), .inl (G.2.1, 8, .inl (c.2 5))), ((A 9), .inl (G.2.1, 8, .inl (c.2 6))), ((A 10), .inl (G.2.1, 8, .inl (c.2 7))), ((BN 0), .inr (5, [.int ((cpW tg_ini c).1 1), .int ((cpW tg_ini c).1 2), .int ((cpW tg_ini c).1 3), .int ((cpW tg_ini c).1 4), .int ((cpW tg_ini c).1 5), .int ((cpW tg_ini c).1 6), .int ((cpW tg_ini c).1 7), .int ((cpW tg_ini c).1 8), .ref (BN 1), .ref (BN 2), .ref (BN 3), .ref (BN 4), .ref (BN 5), .ref (BN 6), .ref (BN 7)])), ((BN 1), .inl (G.2.1, 6, .inl ((cpW tg_ini c).2 1))), ((BN 2), .inl (G.2.1, 8, .inl ((cpW tg_ini c).2 2))), ((BN 3), .inl (G.2.1, 8, .inl ((cpW tg_ini c).2 3))), ((BN 4), .inl (G.2.1, 8, .inl ((cpW tg_ini c).2 4))), ((BN 5), .inl (G.2.1, 8, .inl ((cpW tg_ini c).2 5))), ((BN 6), .inl (G.2.1, 8, .inl ((cpW tg_ini c).2 6))), ((BN 7), .inl (G.2.1, 8, .inl ((cpW tg_ini c).2 7)))]) (by rw [wIr_up1]) ?_
  exact V_ret eX6_image_47 rfl ⟨rfl, BN, rfl⟩
set_option maxRecDepth 20000 in
theorem kt_image_101 (l : Launch) (G : tg_G) (A : Nat → Nat) (c : SS) (b1 : Nat → Nat) (j1 : SS) : Mt l G yX6_image cX6_image 3 (some .int) (tg_R 2 100) [.ref (A 0), .int (1 : Int32)] (wX G A c (none) (some (b1, j1))) (fun v w1 => v = some (.int 1) ∧ w1 = wX G A c (none) (some (b1, cpW j1 c))) := by
  refine Mt_of2 (own := "TramGod") (nm := "image") rfl rfl rfl (Nat.le_of_ble_eq_true rfl) (lv := [(0, .ref (A 0)), (1, .int (1 : Int32))]) rfl ?_
  refine V_iload_n eX6_image_0 1 rfl ?_
  refine V_iconst (v := (0 : Int32)) eX6_image_1 rfl ?_
  refine V_iconst (v := (1 : Int32)) eX6_image_2 rfl ?_
  refine V_callSi (rest := []) eX6_image_3 (ctX6_within l G _ (1 : Int32) (0 : Int32) (1 : Int32) rfl) tc_241 tw_239 tw_1 tw_240 hdX6_within rfl ⟨Nat.le_of_ble_eq_true rfl, Nat.le_of_ble_eq_true rfl⟩ rfl (Nat.le_of_ble_eq_true rfl) ⟨Nat.zero_le _, Nat.zero_le _⟩ ?_
  refine V_if_ne (tgt := 12) eX6_image_6 rfl (fun _ => ?_) (fun hb => absurd hb (by decide))
  refine V_aload_n eX6_image_12 0 rfl ?_
  refine V_get (v := .ref (A 28)) eX6_image_13 inX6 0 rfl rfl 2 (Nat.le_of_ble_eq_true rfl) tw_209 rfl ?_
  refine V_iload_n eX6_image_16 1 rfl ?_
  refine V_aald (v := .ref (b1 0)) eX6_image_17 1 rfl (by unfold vp_in; decide) rfl ?_
  refine V_astore_n (lv' := [(2, .ref (b1 0)), (0, .ref (A 0)), (1, .int (1 : Int32))]) eX6_image_18 (Nat.le_of_ble_eq_true rfl) rfl ?_
  refine V_aload_n eX6_image_19 0 rfl ?_
  refine V_ifnonnull (tgt := 38) eX6_image_20 rfl ?_
  refine V_aload_n eX6_image_38 0 rfl ?_
  refine V_aload_n eX6_image_39 1 rfl ?_
  refine V_get (v := .ref (A 3)) eX6_image_40 inX6 0 rfl rfl 1 (Nat.le_of_ble_eq_true rfl) tw_208 rfl ?_
  refine V_callVF (rest := []) (wc := wW G b1 j1 ++ wW G (fun j => A (3 + j)) c) (wr := [((A 0), .inr (6, [.ref (A 1), .ref (A 3), .ref (A 28), .ref (A 11), .ref (A 13), .ref (A 18), .ref (A 21), .ref (A 26), .ref (A 27)])), ((A 28), .inl (G.2.2.2.1, 2, .inr (.inr (.inr (.inr (wIr (none) (some (b1, j1))))))))]) eX6_image_43 (kt_copyFrom l G b1 (fun j => A (3 + j)) j1 c) tc_622 tw_619 tw_3 tw_620 tw_621 10 rfl rfl hdX5_copyFrom rfl ⟨Nat.le_of_ble_eq_true rfl, Nat.le_of_ble_eq_true rfl⟩ ⟨Nat.le_of_ble_eq_true rfl, Nat.le_of_ble_eq_true rfl⟩ rfl (Nat.le_of_ble_eq_true rfl) [10, 11, 12, 13, 14, 15, 16, 17, 2, 3, 4, 5, 6, 7, 8, 9] [0, 1] rfl rfl rfl rfl (by decide) (fun v w1 hq => ?_)
  obtain ⟨rfl, rfl⟩ := hq
  refine V_iconst (v := (1 : Int32)) eX6_image_46 rfl ?_
  refine V_w (w' := [((A 0), .inr (6, [.ref (A 1), .ref (A 3), .ref (A 28), .ref (A 11), .ref (A 13), .ref (A 18), .ref (A 21), .ref (A 26), .ref (A 27)])), ((A 28), .inl (G.2.2.2.1, 2, .inr (.inr (.inr (.inr (wIr (none) (some (b1, j1)))))))), ((A 3), .inr (5, [.int (c.1 1), .int (c.1 2), .int (c.1 3), .int (c.1 4), .int (c.1 5), .int (c.1 6), .int (c.1 7), .int (c.1 8), .ref (A 4), .ref (A 5), .ref (A 6), .ref (A 7), .ref (A 8), .ref (A 9), .ref (A 10)])), ((A 4), .inl (G.2.1, 6, .inl (c.2 1))), ((A 5), .inl (G.2.1, 8, .inl (c.2 2))), ((A 6), .inl (G.2.1, 8, .inl (c.2 3))), ((A 7), .inl (G.2.1, 8, .inl (c.2 4))), ((A 8), .inl (G.2.1, 8, .inl (c.2 5))), ((A 9), .inl (G.2.1, 8, .inl (c.2 6))), ((A 10), .inl (G.2.1, 8, .inl (c.2 7))), ((b1 0), .inr (5, [.int ((cpW j1 c).1 1), .int ((cpW j1 c).1 2), .int ((cpW j1 c).1 3), .int ((cpW j1 c).1 4), .int ((cpW j1 c).1 5), .int ((cpW j1 c).1 6), .int ((cpW j1 c).1 7), .int ((cpW j1 c).1 8), .ref (b1 1), .ref (b1 2), .ref (b1 3), .ref (b1 4), .ref (b1 5), .ref (b1 6), .ref (b1 7)])), ((b1 1), .inl (G.2.1, 6, .inl ((cpW j1 c).2 1))), ((b1 2), .inl (G.2.1, 8, .inl ((cpW j1 c).2 2))), ((b1 3), .inl (G.2.1, 8, .inl ((cpW j1 c).2 3))), ((b1 4), .inl (G.2.1, 8, .inl ((cpW j1 c).2 4))), ((b1 5), .inl (G.2.1, 8, .inl ((cpW j1 c).2 5))), ((b1 6), .inl (G.2.1, 8, .inl ((cpW j1 c).2 6))), ((b1 7), .inl (G.2.1, 8, .inl ((cpW j1 c).2 7)))]) [0, 1, 10, 11, 12, 13, 14, 15, 16, 17, 2, 3, 4, 5, 6, 7, 8, 9] (by decide) rfl ?_
  exact V_ret eX6_image_47 rfl ⟨rfl, rfl⟩
set_option maxRecDepth 20000 in
theorem kt_image_110 (l : Launch) (G : tg_G) (A : Nat → Nat) (c : SS) (b0 : Nat → Nat) (j0 : SS) : Mt l G yX6_image cX6_image 3 (some .int) ({ frames := 2, cells := 8, slots := 69, locals := 100 } : Room) [.ref (A 0), .int (1 : Int32)] (wX G A c (some (b0, j0)) (none)) (fun v w1 => v = some (.int 1) ∧ ∃ BN : Nat → Nat, w1 = wX G A c (some (b0, j0)) (some (BN, cpW tg_ini c))) := by
  refine Mt_of2 (own := "TramGod") (nm := "image") rfl rfl rfl (Nat.le_of_ble_eq_true rfl) (lv := [(0, .ref (A 0)), (1, .int (1 : Int32))]) rfl ?_
  refine V_iload_n eX6_image_0 1 rfl ?_
  refine V_iconst (v := (0 : Int32)) eX6_image_1 rfl ?_
  refine V_iconst (v := (1 : Int32)) eX6_image_2 rfl ?_
  refine V_callSi (rest := []) eX6_image_3 (ctX6_within l G _ (1 : Int32) (0 : Int32) (1 : Int32) rfl) tc_241 tw_239 tw_1 tw_240 hdX6_within rfl ⟨Nat.le_of_ble_eq_true rfl, Nat.le_of_ble_eq_true rfl⟩ rfl (Nat.le_of_ble_eq_true rfl) ⟨Nat.zero_le _, Nat.zero_le _⟩ ?_
  refine V_if_ne (tgt := 12) eX6_image_6 rfl (fun _ => ?_) (fun hb => absurd hb (by decide))
  refine V_aload_n eX6_image_12 0 rfl ?_
  refine V_get (v := .ref (A 28)) eX6_image_13 inX6 0 rfl rfl 2 (Nat.le_of_ble_eq_true rfl) tw_209 rfl ?_
  refine V_iload_n eX6_image_16 1 rfl ?_
  refine V_aald (v := .null) eX6_image_17 1 rfl (by unfold vp_in; decide) rfl ?_
  refine V_astore_nN (lv' := [(2, .null), (0, .ref (A 0)), (1, .int (1 : Int32))]) eX6_image_18 (Nat.le_of_ble_eq_true rfl) rfl ?_
  refine V_aload_nN eX6_image_19 0 rfl ?_
  refine V_ifnonnullN eX6_image_20 ?_
  refine V_new tyX5 [.int 0, .int 0, .int 0, .int 0, .int 0, .int 0, .int 0, .int 0, .null, .null, .null, .null, .null, .null, .null] eX6_image_23 inX5 tyX5_ok tw_36 tw_37 tw_3 (ci := 5) rfl (by decide +kernel) (Nat.le_of_ble_eq_true rfl) (Nat.le_of_ble_eq_true rfl) (fun q1 => ?_)
  refine V_dup eX6_image_26 rfl ?_
  refine V_callINF (rest := [.ref q1]) (wc := [(q1, .inr (5, [.int 0, .int 0, .int 0, .int 0, .int 0, .int 0, .int 0, .int 0, .null, .null, .null, .null, .null, .null, .null]))]) (wr := [((A 0), .inr (6, [.ref (A 1), .ref (A 3), .ref (A 28), .ref (A 11), .ref (A 13), .ref (A 18), .ref (A 21), .ref (A 26), .ref (A 27)])), ((A 28), .inl (G.2.2.2.1, 2, .inr (.inr (.inr (.inr (wIr (some (b0, j0)) (none))))))), ((A 3), .inr (5, [.int (c.1 1), .int (c.1 2), .int (c.1 3), .int (c.1 4), .int (c.1 5), .int (c.1 6), .int (c.1 7), .int (c.1 8), .ref (A 4), .ref (A 5), .ref (A 6), .ref (A 7), .ref (A 8), .ref (A 9), .ref (A 10)])), ((A 4), .inl (G.2.1, 6, .inl (c.2 1))), ((A 5), .inl (G.2.1, 8, .inl (c.2 2))), ((A 6), .inl (G.2.1, 8, .inl (c.2 3))), ((A 7), .inl (G.2.1, 8, .inl (c.2 4))), ((A 8), .inl (G.2.1, 8, .inl (c.2 5))), ((A 9), .inl (G.2.1, 8, .inl (c.2 6))), ((A 10), .inl (G.2.1, 8, .inl (c.2 7))), ((b0 0), .inr (5, [.int (j0.1 1), .int (j0.1 2), .int (j0.1 3), .int (j0.1 4), .int (j0.1 5), .int (j0.1 6), .int (j0.1 7), .int (j0.1 8), .ref (b0 1), .ref (b0 2), .ref (b0 3), .ref (b0 4), .ref (b0 5), .ref (b0 6), .ref (b0 7)])), ((b0 1), .inl (G.2.1, 6, .inl (j0.2 1))), ((b0 2), .inl (G.2.1, 8, .inl (j0.2 2))), ((b0 3), .inl (G.2.1, 8, .inl (j0.2 3))), ((b0 4), .inl (G.2.1, 8, .inl (j0.2 4))), ((b0 5), .inl (G.2.1, 8, .inl (j0.2 5))), ((b0 6), .inl (G.2.1, 8, .inl (j0.2 6))), ((b0 7), .inl (G.2.1, 8, .inl (j0.2 7)))]) eX6_image_27 (ktX5_init l G q1) tc_40 (List.mem_of_getElem? (i := 1) rfl) tw_3 tw_39 rfl hdX5_init rfl ⟨Nat.le_of_ble_eq_true rfl, Nat.le_of_ble_eq_true rfl⟩ ⟨Nat.le_of_ble_eq_true rfl, Nat.le_of_ble_eq_true rfl⟩ rfl (Nat.le_of_ble_eq_true rfl) [18] [0, 1, 2, 3, 4, 5, 6, 7, 8, 9, 10, 11, 12, 13, 14, 15, 16, 17] rfl rfl rfl (by decide) (by decide) (fun v w1 hq => ?_)
  obtain ⟨rfl, q1_1, q2_1, q3_1, q4_1, q5_1, q6_1, q7_1, rfl⟩ := hq
  obtain ⟨BN, hBN⟩ : ∃ BN : Nat → Nat, BN = fun k => (([q1, q1_1, q2_1, q3_1, q4_1, q5_1, q6_1, q7_1] : List Nat).getD k 0) := ⟨_, rfl⟩
  refine V_weq (w' := [((A 0), .inr (6, [.ref (A 1), .ref (A 3), .ref (A 28), .ref (A 11), .ref (A 13), .ref (A 18), .ref (A 21), .ref (A 26), .ref (A 27)])), ((A 28), .inl (G.2.2.2.1, 2, .inr (.inr (.inr (.inr (wIr (some (b0, j0)) (none))))))), ((A 3), .inr (5, [.int (c.1 1), .int (c.1 2), .int (c.1 3), .int (c.1 4), .int (c.1 5), .int (c.1 6), .int (c.1 7), .int (c.1 8), .ref (A 4), .ref (A 5), .ref (A 6), .ref (A 7), .ref (A 8), .ref (A 9), .ref (A 10)])), ((A 4), .inl (G.2.1, 6, .inl (c.2 1))), ((A 5), .inl (G.2.1, 8, .inl (c.2 2))), ((A 6), .inl (G.2.1, 8, .inl (c.2 3))), ((A 7), .inl (G.2.1, 8, .inl (c.2 4))), ((A 8), .inl (G.2.1, 8, .inl (c.2 5))), ((A 9), .inl (G.2.1, 8, .inl (c.2 6))), ((A 10), .inl (G.2.1, 8, .inl (c.2 7))), ((b0 0), .inr (5, [.int (j0.1 1), .int (j0.1 2), .int (j0.1 3), .int (j0.1 4), .int (j0.1 5), .int (j0.1 6), .int (j0.1 7), .int (j0.1 8), .ref (b0 1), .ref (b0 2), .ref (b0 3), .ref (b0 4), .ref (b0 5), .ref (b0 6), .ref (b0 7)])), ((b0 1), .inl (G.2.1, 6, .inl (j0.2 1))), ((b0 2), .inl (G.2.1, 8, .inl (j0.2 2))), ((b0 3), .inl (G.2.1, 8, .inl (j0.2 3))), ((b0 4), .inl (G.2.1, 8, .inl (j0.2 4))), ((b0 5), .inl (G.2.1, 8, .inl (j0.2 5))), ((b0 6), .inl (G.2.1, 8, .inl (j0.2 6))), ((b0 7), .inl (G.2.1, 8, .inl (j0.2 7))), ((BN 0), .inr (5, [.int (tg_ini.1 1), .int (tg_ini.1 2), .int (tg_ini.1 3), .int (tg_ini.1 4), .int (tg_ini.1 5), .int (tg_ini.1 6), .int (tg_ini.1 7), .int (tg_ini.1 8), .ref (BN 1), .ref (BN 2), .ref (BN 3), .ref (BN 4), .ref (BN 5), .ref (BN 6), .ref (BN 7)])), ((BN 1), .inl (G.2.1, 6, .inl (tg_ini.2 1))), ((BN 2), .inl (G.2.1, 8, .inl (tg_ini.2 2))), ((BN 3), .inl (G.2.1, 8, .inl (tg_ini.2 3))), ((BN 4), .inl (G.2.1, 8, .inl (tg_ini.2 4))), ((BN 5), .inl (G.2.1, 8, .inl (tg_ini.2 5))), ((BN 6), .inl (G.2.1, 8, .inl (tg_ini.2 6))), ((BN 7), .inl (G.2.1, 8, .inl (tg_ini.2 7)))]) (by rw [hBN]; rfl) ?_
  refine V_steq (st' := [.ref (BN 0)]) (by rw [hBN]; rfl) ?_
  refine V_astore_n (lv' := [(2, .ref (BN 0)), (0, .ref (A 0)), (1, .int (1 : Int32))]) eX6_image_30 (Nat.le_of_ble_eq_true rfl) rfl ?_
  refine V_aload_n eX6_image_31 1 rfl ?_
  refine V_get (v := .ref (A 28)) eX6_image_32 inX6 0 rfl rfl 2 (Nat.le_of_ble_eq_true rfl) tw_209 rfl ?_
  refine V_iload_n eX6_image_35 2 rfl ?_
  refine V_aload_n eX6_image_36 0 rfl ?_
  refine V_aast (w' := [((A 0), .inr (6, [.ref (A 1), .ref (A 3), .ref (A 28), .ref (A 11), .ref (A 13), .ref (A 18), .ref (A 21), .ref (A 26), .ref (A 27)])), ((A 28), .inl (G.2.2.2.1, 2, .inr (.inr (.inr (.inr (va_up (wIr (some (b0, j0)) (none)) ((1 : Int32)).toNatClampNeg (some (BN 0)))))))), ((A 3), .inr (5, [.int (c.1 1), .int (c.1 2), .int (c.1 3), .int (c.1 4), .int (c.1 5), .int (c.1 6), .int (c.1 7), .int (c.1 8), .ref (A 4), .ref (A 5), .ref (A 6), .ref (A 7), .ref (A 8), .ref (A 9), .ref (A 10)])), ((A 4), .inl (G.2.1, 6, .inl (c.2 1))), ((A 5), .inl (G.2.1, 8, .inl (c.2 2))), ((A 6), .inl (G.2.1, 8, .inl (c.2 3))), ((A 7), .inl (G.2.1, 8, .inl (c.2 4))), ((A 8), .inl (G.2.1, 8, .inl (c.2 5))), ((A 9), .inl (G.2.1, 8, .inl (c.2 6))), ((A 10), .inl (G.2.1, 8, .inl (c.2 7))), ((b0 0), .inr (5, [.int (j0.1 1), .int (j0.1 2), .int (j0.1 3), .int (j0.1 4), .int (j0.1 5), .int (j0.1 6), .int (j0.1 7), .int (j0.1 8), .ref (b0 1), .ref (b0 2), .ref (b0 3), .ref (b0 4), .ref (b0 5), .ref (b0 6), .ref (b0 7)])), ((b0 1), .inl (G.2.1, 6, .inl (j0.2 1))), ((b0 2), .inl (G.2.1, 8, .inl (j0.2 2))), ((b0 3), .inl (G.2.1, 8, .inl (j0.2 3))), ((b0 4), .inl (G.2.1, 8, .inl (j0.2 4))), ((b0 5), .inl (G.2.1, 8, .inl (j0.2 5))), ((b0 6), .inl (G.2.1, 8, .inl (j0.2 6))), ((b0 7), .inl (G.2.1, 8, .inl (j0.2 7))), ((BN 0), .inr (5, [.int (tg_ini.1 1), .int (tg_ini.1 2), .int (tg_ini.1 3), .int (tg_ini.1 4), .int (tg_ini.1 5), .int (tg_ini.1 6), .int (tg_ini.1 7), .int (tg_ini.1 8), .ref (BN 1), .ref (BN 2), .ref (BN 3), .ref (BN 4), .ref (BN 5), .ref (BN 6), .ref (BN 7)])), ((BN 1), .inl (G.2.1, 6, .inl (tg_ini.2 1))), ((BN 2), .inl (G.2.1, 8, .inl (tg_ini.2 2))), ((BN 3), .inl (G.2.1, 8, .inl (tg_ini.2 3))), ((BN 4), .inl (G.2.1, 8, .inl (tg_ini.2 4))), ((BN 5), .inl (G.2.1, 8, .inl (tg_ini.2 5))), ((BN 6), .inl (G.2.1, 8, .inl (tg_ini.2 6))), ((BN 7), .inl (G.2.1, 8, .inl (tg_ini.2 7)))]) eX6_image_37 1 18 rfl rfl (by unfold vp_in; decide) rfl ?_
  refine V_aload_n eX6_image_38 0 rfl ?_
  refine V_aload_n eX6_image_39 1 rfl ?_
  refine V_get (v := .ref (A 3)) eX6_image_40 inX6 0 rfl rfl 1 (Nat.le_of_ble_eq_true rfl) tw_208 rfl ?_
  refine V_callVF (rest := []) (wc := wW G BN tg_ini ++ wW G (fun j => A (3 + j)) c) (wr := [((A 0), .inr (6, [.ref (A 1), .ref (A 3), .ref (A 28), .ref (A 11), .ref (A 13), .ref (A 18), .ref (A 21), .ref (A 26), .ref (A 27)])), ((A 28), .inl (G.2.2.2.1, 2, .inr (.inr (.inr (.inr (va_up (wIr (some (b0, j0)) (none)) ((1 : Int32)).toNatClampNeg (some (BN 0)))))))), ((b0 0), .inr (5, [.int (j0.1 1), .int (j0.1 2), .int (j0.1 3), .int (j0.1 4), .int (j0.1 5), .int (j0.1 6), .int (j0.1 7), .int (j0.1 8), .ref (b0 1), .ref (b0 2), .ref (b0 3), .ref (b0 4), .ref (b0 5), .ref (b0 6), .ref (b0 7)])), ((b0 1), .inl (G.2.1, 6, .inl (j0.2 1))), ((b0 2), .inl (G.2.1, 8, .inl (j0.2 2))), ((b0 3), .inl (G.2.1, 8, .inl (j0.2 3))), ((b0 4), .inl (G.2.1, 8, .inl (j0.2 4))), ((b0 5), .inl (G.2.1, 8, .inl (j0.2 5))), ((b0 6), .inl (G.2.1, 8, .inl (j0.2 6))), ((b0 7), .inl (G.2.1, 8, .inl (j0.2 7)))]) eX6_image_43 (kt_copyFrom l G BN (fun j => A (3 + j)) tg_ini c) tc_622 tw_619 tw_3 tw_620 tw_621 18 rfl rfl hdX5_copyFrom rfl ⟨Nat.le_of_ble_eq_true rfl, Nat.le_of_ble_eq_true rfl⟩ ⟨Nat.le_of_ble_eq_true rfl, Nat.le_of_ble_eq_true rfl⟩ rfl (Nat.le_of_ble_eq_true rfl) [18, 19, 20, 21, 22, 23, 24, 25, 2, 3, 4, 5, 6, 7, 8, 9] [0, 1, 10, 11, 12, 13, 14, 15, 16, 17] rfl rfl rfl rfl (by decide) (fun v w1 hq => ?_)
  obtain ⟨rfl, rfl⟩ := hq
  refine V_iconst (v := (1 : Int32)) eX6_image_46 rfl ?_
  refine V_w (w' := [((A 0), .inr (6, [.ref (A 1), .ref (A 3), .ref (A 28), .ref (A 11), .ref (A 13), .ref (A 18), .ref (A 21), .ref (A 26), .ref (A 27)])), ((A 28), .inl (G.2.2.2.1, 2, .inr (.inr (.inr (.inr (va_up (wIr (some (b0, j0)) (none)) ((1 : Int32)).toNatClampNeg (some (BN 0)))))))), ((A 3), .inr (5, [.int (c.1 1), .int (c.1 2), .int (c.1 3), .int (c.1 4), .int (c.1 5), .int (c.1 6), .int (c.1 7), .int (c.1 8), .ref (A 4), .ref (A 5), .ref (A 6), .ref (A 7), .ref (A 8), .ref (A 9), .ref (A 10)])), ((A 4), .inl (G.2.1, 6, .inl (c.2 1))), ((A 5), .inl (G.2.1, 8, .inl (c.2 2))), ((A 6), .inl (G.2.1, 8, .inl (c.2 3))), ((A 7), .inl (G.2.1, 8, .inl (c.2 4))), ((A 8), .inl (G.2.1, 8, .inl (c.2 5))), ((A 9), .inl (G.2.1, 8, .inl (c.2 6))), ((A 10), .inl (G.2.1, 8, .inl (c.2 7))), ((b0 0), .inr (5, [.int (j0.1 1), .int (j0.1 2), .int (j0.1 3), .int (j0.1 4), .int (j0.1 5), .int (j0.1 6), .int (j0.1 7), .int (j0.1 8), .ref (b0 1), .ref (b0 2), .ref (b0 3), .ref (b0 4), .ref (b0 5), .ref (b0 6), .ref (b0 7)])), ((b0 1), .inl (G.2.1, 6, .inl (j0.2 1))), ((b0 2), .inl (G.2.1, 8, .inl (j0.2 2))), ((b0 3), .inl (G.2.1, 8, .inl (j0.2 3))), ((b0 4), .inl (G.2.1, 8, .inl (j0.2 4))), ((b0 5), .inl (G.2.1, 8, .inl (j0.2 5))), ((b0 6), .inl (G.2.1, 8, .inl (j0.2 6))), ((b0 7), .inl (G.2.1, 8, .inl (j0.2 7))), ((BN 0), .inr (5, [.int ((cpW tg_ini c).1 1), .int ((cpW tg_ini c).1 2), .int ((cpW tg_ini c).1 3), .int ((cpW tg_ini c).1 4), .int ((cpW tg_ini c).1 5), .int ((cpW tg_ini c).1 6), .int ((cpW tg_ini c).1 7), .int ((cpW tg_ini c).1 8), .ref (BN 1), .ref (BN 2), .ref (BN 3), .ref (BN 4), .ref (BN 5), .ref (BN 6), .ref (BN 7)])), ((BN 1), .inl (G.2.1, 6, .inl ((cpW tg_ini c).2 1))), ((BN 2), .inl (G.2.1, 8, .inl ((cpW tg_ini c).2 2))), ((BN 3), .inl (G.2.1, 8, .inl ((cpW tg_ini c).2 3))), ((BN 4), .inl (G.2.1, 8, .inl ((cpW tg_ini c).2 4))), ((BN 5), .inl (G.2.1, 8, .inl ((cpW tg_ini c).2 5))), ((BN 6), .inl (G.2.1, 8, .inl ((cpW tg_ini c).2 6))), ((BN 7), .inl (G.2.1, 8, .inl ((cpW tg_ini c).2 7)))]) [0, 1, 18, 19, 20, 21, 22, 23, 24, 25, 2, 3, 4, 5, 6, 7, 8, 9, 10, 11, 12, 13, 14, 15, 16, 17] (by decide) rfl ?_
  refine V_weq (w' := [((A 0), .inr (6, [.ref (A 1), .ref (A 3), .ref (A 28), .ref (A 11), .ref (A 13), .ref (A 18), .ref (A 21), .ref (A 26), .ref (A 27)])), ((A 28), .inl (G.2.2.2.1, 2, .inr (.inr (.inr (.inr (wIr (some (b0, j0)) (some (BN, cpW tg_ini c)))))))), ((A 3), .inr (5, [.int (c.1 1), .int (c.1 2), .int (c.1 3), .int (c.1 4), .int (c.1 5), .int (c.1 6), .int (c.1 7), .int (c.1 8), .ref (A 4), .ref (A 5), .ref (A 6), .ref (A 7), .ref (A 8), .ref (A 9), .ref (A 10)])), ((A 4), .inl (G.2.1, 6, .inl (c.2 1))), ((A 5), .inl (G.2.1, 8, .inl (c.2 2))), ((A 6), .inl (G.2.1, 8, .inl (c.2 3))), ((A 7), .inl (G.2.1, 8, .inl (c.2 4))), ((A 8), .inl (G.2.1, 8, .inl (c.2 5))), ((A 9), .inl (G.2.1, 8, .inl (c.2 6))), ((A 10), .inl (G.2.1, 8, .inl (c.2 7))), ((b0 0), .inr (5, [.int (j0.1 1), .int (j0.1 2), .int (j0.1 3), .int (j0.1 4), .int (j0.1 5), .int (j0.1 6), .int (j0.1 7), .int (j0.1 8), .ref (b0 1), .ref (b0 2), .ref (b0 3), .ref (b0 4), .ref (b0 5), .ref (b0 6), .ref (b0 7)])), ((b0 1), .inl (G.2.1, 6, .inl (j0.2 1))), ((b0 2), .inl (G.2.1, 8, .inl (j0.2 2))), ((b0 3), .inl (G.2.1, 8, .inl (j0.2 3))), ((b0 4), .inl (G.2.1, 8, .inl (j0.2 4))), ((b0 5), .inl (G.2.1, 8, .inl (j0.2 5))), ((b0 6), .inl (G.2.1, 8, .inl (j0.2 6))), ((b0 7), .inl (G.2.1, 8, .inl (j0.2 7))), ((BN 0), .inr (5, [.int ((cpW tg_ini c).1 1), .int ((cpW tg_ini c).1 2), .int ((cpW tg_ini c).1 3), .int ((cpW tg_ini c).1 4), .int ((cpW tg_ini c).1 5), .int ((cpW tg_ini c).1 6), .int ((cpW tg_ini c).1 7), .int ((cpW tg_ini c).1 8), .ref (BN 1), .ref (BN 2), .ref (BN 3), .ref (BN 4), .ref (BN 5), .ref (BN 6), .ref (BN 7)])), ((BN 1), .inl (G.2.1, 6, .inl ((cpW tg_ini c).2 1))), ((BN 2), .inl (G.2.1, 8, .inl ((cpW tg_ini c).2 2))), ((BN 3), .inl (G.2.1, 8, .inl ((cpW tg_ini c).2 3))), ((BN 4), .inl (G.2.1, 8, .inl ((cpW tg_ini c).2 4))), ((BN 5), .inl (G.2.1, 8, .inl ((cpW tg_ini c).2 5))), ((BN 6), .inl (G.2.1, 8, .inl ((cpW tg_ini c).2 6))), ((BN 7), .inl (G.2.1, 8, .inl ((cpW tg_ini c).2 7)))]) (by rw [wIr_up1]) ?_
  exact V_ret eX6_image_47 rfl ⟨rfl, BN, rfl⟩
set_option maxRecDepth 20000 in
theorem kt_image_111 (l : Launch) (G : tg_G) (A : Nat → Nat) (c : SS) (b0 : Nat → Nat) (j0 : SS) (b1 : Nat → Nat) (j1 : SS) : Mt l G yX6_image cX6_image 3 (some .int) (tg_R 2 100) [.ref (A 0), .int (1 : Int32)] (wX G A c (some (b0, j0)) (some (b1, j1))) (fun v w1 => v = some (.int 1) ∧ w1 = wX G A c (some (b0, j0)) (some (b1, cpW j1 c))) := by
  refine Mt_of2 (own := "TramGod") (nm := "image") rfl rfl rfl (Nat.le_of_ble_eq_true rfl) (lv := [(0, .ref (A 0)), (1, .int (1 : Int32))]) rfl ?_
  refine V_iload_n eX6_image_0 1 rfl ?_
  refine V_iconst (v := (0 : Int32)) eX6_image_1 rfl ?_
  refine V_iconst (v := (1 : Int32)) eX6_image_2 rfl ?_
  refine V_callSi (rest := []) eX6_image_3 (ctX6_within l G _ (1 : Int32) (0 : Int32) (1 : Int32) rfl) tc_241 tw_239 tw_1 tw_240 hdX6_within rfl ⟨Nat.le_of_ble_eq_true rfl, Nat.le_of_ble_eq_true rfl⟩ rfl (Nat.le_of_ble_eq_true rfl) ⟨Nat.zero_le _, Nat.zero_le _⟩ ?_
  refine V_if_ne (tgt := 12) eX6_image_6 rfl (fun _ => ?_) (fun hb => absurd hb (by decide))
  refine V_aload_n eX6_image_12 0 rfl ?_
  refine V_get (v := .ref (A 28)) eX6_image_13 inX6 0 rfl rfl 2 (Nat.le_of_ble_eq_true rfl) tw_209 rfl ?_
  refine V_iload_n eX6_image_16 1 rfl ?_
  refine V_aald (v := .ref (b1 0)) eX6_image_17 1 rfl (by unfold vp_in; decide) rfl ?_
  refine V_astore_n (lv' := [(2, .ref (b1 0)), (0, .ref (A 0)), (1, .int (1 : Int32))]) eX6_image_18 (Nat.le_of_ble_eq_true rfl) rfl ?_
  refine V_aload_n eX6_image_19 0 rfl ?_
  refine V_ifnonnull (tgt := 38) eX6_image_20 rfl ?_
  refine V_aload_n eX6_image_38 0 rfl ?_
  refine V_aload_n eX6_image_39 1 rfl ?_
  refine V_get (v := .ref (A 3)) eX6_image_40 inX6 0 rfl rfl 1 (Nat.le_of_ble_eq_true rfl) tw_208 rfl ?_
  refine V_callVF (rest := []) (wc := wW G b1 j1 ++ wW G (fun j => A (3 + j)) c) (wr := [((A 0), .inr (6, [.ref (A 1), .ref (A 3), .ref (A 28), .ref (A 11), .ref (A 13), .ref (A 18), .ref (A 21), .ref (A 26), .ref (A 27)])), ((A 28), .inl (G.2.2.2.1, 2, .inr (.inr (.inr (.inr (wIr (some (b0, j0)) (some (b1, j1)))))))), ((b0 0), .inr (5, [.int (j0.1 1), .int (j0.1 2), .int (j0.1 3), .int (j0.1 4), .int (j0.1 5), .int (j0.1 6), .int (j0.1 7), .int (j0.1 8), .ref (b0 1), .ref (b0 2), .ref (b0 3), .ref (b0 4), .ref (b0 5), .ref (b0 6), .ref (b0 7)])), ((b0 1), .inl (G.2.1, 6, .inl (j0.2 1))), ((b0 2), .inl (G.2.1, 8, .inl (j0.2 2))), ((b0 3), .inl (G.2.1, 8, .inl (j0.2 3))), ((b0 4), .inl (G.2.1, 8, .inl (j0.2 4))), ((b0 5), .inl (G.2.1, 8, .inl (j0.2 5))), ((b0 6), .inl (G.2.1, 8, .inl (j0.2 6))), ((b0 7), .inl (G.2.1, 8, .inl (j0.2 7)))]) eX6_image_43 (kt_copyFrom l G b1 (fun j => A (3 + j)) j1 c) tc_622 tw_619 tw_3 tw_620 tw_621 18 rfl rfl hdX5_copyFrom rfl ⟨Nat.le_of_ble_eq_true rfl, Nat.le_of_ble_eq_true rfl⟩ ⟨Nat.le_of_ble_eq_true rfl, Nat.le_of_ble_eq_true rfl⟩ rfl (Nat.le_of_ble_eq_true rfl) [18, 19, 20, 21, 22, 23, 24, 25, 2, 3, 4, 5, 6, 7, 8, 9] [0, 1, 10, 11, 12, 13, 14, 15, 16, 17] rfl rfl rfl rfl (by decide) (fun v w1 hq => ?_)
  obtain ⟨rfl, rfl⟩ := hq
  refine V_iconst (v := (1 : Int32)) eX6_image_46 rfl ?_
  refine V_w (w' := [((A 0), .inr (6, [.ref (A 1), .ref (A 3), .ref (A 28), .ref (A 11), .ref (A 13), .ref (A 18), .ref (A 21), .ref (A 26), .ref (A 27)])), ((A 28), .inl (G.2.2.2.1, 2, .inr (.inr (.inr (.inr (wIr (some (b0, j0)) (some (b1, j1)))))))), ((A 3), .inr (5, [.int (c.1 1), .int (c.1 2), .int (c.1 3), .int (c.1 4), .int (c.1 5), .int (c.1 6), .int (c.1 7), .int (c.1 8), .ref (A 4), .ref (A 5), .ref (A 6), .ref (A 7), .ref (A 8), .ref (A 9), .ref (A 10)])), ((A 4), .inl (G.2.1, 6, .inl (c.2 1))), ((A 5), .inl (G.2.1, 8, .inl (c.2 2))), ((A 6), .inl (G.2.1, 8, .inl (c.2 3))), ((A 7), .inl (G.2.1, 8, .inl (c.2 4))), ((A 8), .inl (G.2.1, 8, .inl (c.2 5))), ((A 9), .inl (G.2.1, 8, .inl (c.2 6))), ((A 10), .inl (G.2.1, 8, .inl (c.2 7))), ((b0 0), .inr (5, [.int (j0.1 1), .int (j0.1 2), .int (j0.1 3), .int (j0.1 4), .int (j0.1 5), .int (j0.1 6), .int (j0.1 7), .int (j0.1 8), .ref (b0 1), .ref (b0 2), .ref (b0 3), .ref (b0 4), .ref (b0 5), .ref (b0 6), .ref (b0 7)])), ((b0 1), .inl (G.2.1, 6, .inl (j0.2 1))), ((b0 2), .inl (G.2.1, 8, .inl (j0.2 2))), ((b0 3), .inl (G.2.1, 8, .inl (j0.2 3))), ((b0 4), .inl (G.2.1, 8, .inl (j0.2 4))), ((b0 5), .inl (G.2.1, 8, .inl (j0.2 5))), ((b0 6), .inl (G.2.1, 8, .inl (j0.2 6))), ((b0 7), .inl (G.2.1, 8, .inl (j0.2 7))), ((b1 0), .inr (5, [.int ((cpW j1 c).1 1), .int ((cpW j1 c).1 2), .int ((cpW j1 c).1 3), .int ((cpW j1 c).1 4), .int ((cpW j1 c).1 5), .int ((cpW j1 c).1 6), .int ((cpW j1 c).1 7), .int ((cpW j1 c).1 8), .ref (b1 1), .ref (b1 2), .ref (b1 3), .ref (b1 4), .ref (b1 5), .ref (b1 6), .ref (b1 7)])), ((b1 1), .inl (G.2.1, 6, .inl ((cpW j1 c).2 1))), ((b1 2), .inl (G.2.1, 8, .inl ((cpW j1 c).2 2))), ((b1 3), .inl (G.2.1, 8, .inl ((cpW j1 c).2 3))), ((b1 4), .inl (G.2.1, 8, .inl ((cpW j1 c).2 4))), ((b1 5), .inl (G.2.1, 8, .inl ((cpW j1 c).2 5))), ((b1 6), .inl (G.2.1, 8, .inl ((cpW j1 c).2 6))), ((b1 7), .inl (G.2.1, 8, .inl ((cpW j1 c).2 7)))]) [0, 1, 18, 19, 20, 21, 22, 23, 24, 25, 2, 3, 4, 5, 6, 7, 8, 9, 10, 11, 12, 13, 14, 15, 16, 17] (by decide) rfl ?_
  exact V_ret eX6_image_47 rfl ⟨rfl, rfl⟩
theorem kt_image_out (l : Launch) (G : tg_G) (A : Nat → Nat) (p1 : Int32) (w : va_W) (hk : fX6_within p1 0 1 = 0) : Mt l G yX6_image cX6_image 3 (some .int) (tg_R 2 100) [.ref (A 0), .int p1] w (fun v w1 => v = some (.int (-2)) ∧ w1 = w) := by
  refine Mt_of2 (own := "TramGod") (nm := "image") rfl rfl rfl (Nat.le_of_ble_eq_true rfl) (lv := [(0, .ref (A 0)), (1, .int p1)]) rfl ?_
  refine V_iload_n eX6_image_0 1 rfl ?_
  refine V_iconst (v := (0 : Int32)) eX6_image_1 rfl ?_
  refine V_iconst (v := (1 : Int32)) eX6_image_2 rfl ?_
  refine V_callSi (rest := []) eX6_image_3 (ctX6_within l G _ p1 (0 : Int32) (1 : Int32) rfl) tc_241 tw_239 tw_1 tw_240 hdX6_within rfl ⟨Nat.le_of_ble_eq_true rfl, Nat.le_of_ble_eq_true rfl⟩ rfl (Nat.le_of_ble_eq_true rfl) ⟨Nat.zero_le _, Nat.zero_le _⟩ ?_
  refine V_if_ne (tgt := 12) eX6_image_6 rfl (fun hb => absurd hk hb) (fun _ => ?_)
  refine V_bipush (v := (-2 : Int32)) eX6_image_9 rfl ?_
  exact V_ret eX6_image_11 rfl ⟨rfl, rfl⟩
set_option maxRecDepth 20000 in
theorem kt_restore_000 (l : Launch) (G : tg_G) (A : Nat → Nat) (c : SS) : Mt l G yX6_restore cX6_restore 3 (some .int) (tg_R 2 100) [.ref (A 0), .int (0 : Int32)] (wX G A c (none) (none)) (fun v w1 => v = some (.int (-3)) ∧ w1 = wX G A c (none) (none)) := by
  refine Mt_of2 (own := "TramGod") (nm := "restore") rfl rfl rfl (Nat.le_of_ble_eq_true rfl) (lv := [(0, .ref (A 0)), (1, .int (0 : Int32))]) rfl ?_
  refine V_iload_n eX6_restore_0 1 rfl ?_
  refine V_iconst (v := (0 : Int32)) eX6_restore_1 rfl ?_
  refine V_iconst (v := (1 : Int32)) eX6_restore_2 rfl ?_
  refine V_callSi (rest := []) eX6_restore_3 (ctX6_within l G _ (0 : Int32) (0 : Int32) (1 : Int32) rfl) tc_241 tw_239 tw_1 tw_240 hdX6_within rfl ⟨Nat.le_of_ble_eq_true rfl, Nat.le_of_ble_eq_true rfl⟩ rfl (Nat.le_of_ble_eq_true rfl) ⟨Nat.zero_le _, Nat.zero_le _⟩ ?_
  refine V_if_ne (tgt := 12) eX6_restore_6 rfl (fun _ => ?_) (fun hb => absurd hb (by decide))
  refine V_aload_n eX6_restore_12 0 rfl ?_
  refine V_get (v := .ref (A 28)) eX6_restore_13 inX6 0 rfl rfl 2 (Nat.le_of_ble_eq_true rfl) tw_209 rfl ?_
  refine V_iload_n eX6_restore_16 1 rfl ?_
  refine V_aald (v := .null) eX6_restore_17 1 rfl (by unfold vp_in; decide) rfl ?_
  refine V_astore_nN (lv' := [(2, .null), (0, .ref (A 0)), (1, .int (0 : Int32))]) eX6_restore_18 (Nat.le_of_ble_eq_true rfl) rfl ?_
  refine V_aload_nN eX6_restore_19 0 rfl ?_
  refine V_ifnonnullN eX6_restore_20 ?_
  refine V_bipush (v := (-3 : Int32)) eX6_restore_23 rfl ?_
  exact V_ret eX6_restore_25 rfl ⟨rfl, rfl⟩
set_option maxRecDepth 20000 in
theorem kt_restore_001 (l : Launch) (G : tg_G) (A : Nat → Nat) (c : SS) (b1 : Nat → Nat) (j1 : SS) : Mt l G yX6_restore cX6_restore 3 (some .int) (tg_R 2 100) [.ref (A 0), .int (0 : Int32)] (wX G A c (none) (some (b1, j1))) (fun v w1 => v = some (.int (-3)) ∧ w1 = wX G A c (none) (some (b1, j1))) := by
  refine Mt_of2 (own := "TramGod") (nm := "restore") rfl rfl rfl (Nat.le_of_ble_eq_true rfl) (lv := [(0, .ref (A 0)), (1, .int (0 : Int32))]) rfl ?_
  refine V_iload_n eX6_restore_0 1 rfl ?_
  refine V_iconst (v := (0 : Int32)) eX6_restore_1 rfl ?_
  refine V_iconst (v := (1 : Int32)) eX6_restore_2 rfl ?_
  refine V_callSi (rest := []) eX6_restore_3 (ctX6_within l G _ (0 : Int32) (0 : Int32) (1 : Int32) rfl) tc_241 tw_239 tw_1 tw_240 hdX6_within rfl ⟨Nat.le_of_ble_eq_true rfl, Nat.le_of_ble_eq_true rfl⟩ rfl (Nat.le_of_ble_eq_true rfl) ⟨Nat.zero_le _, Nat.zero_le _⟩ ?_
  refine V_if_ne (tgt := 12) eX6_restore_6 rfl (fun _ => ?_) (fun hb => absurd hb (by decide))
  refine V_aload_n eX6_restore_12 0 rfl ?_
  refine V_get (v := .ref (A 28)) eX6_restore_13 inX6 0 rfl rfl 2 (Nat.le_of_ble_eq_true rfl) tw_209 rfl ?_
  refine V_iload_n eX6_restore_16 1 rfl ?_
  refine V_aald (v := .null) eX6_restore_17 1 rfl (by unfold vp_in; decide) rfl ?_
  refine V_astore_nN (lv' := [(2, .null), (0, .ref (A 0)), (1, .int (0 : Int32))]) eX6_restore_18 (Nat.le_of_ble_eq_true rfl) rfl ?_
  refine V_aload_nN eX6_restore_19 0 rfl ?_
  refine V_ifnonnullN eX6_restore_20 ?_
  refine V_bipush (v := (-3 : Int32)) eX6_restore_23 rfl ?_
  exact V_ret eX6_restore_25 rfl ⟨rfl, rfl⟩
set_option maxRecDepth 20000 in
theorem kt_restore_010 (l : Launch) (G : tg_G) (A : Nat → Nat) (c : SS) (b0 : Nat → Nat) (j0 : SS) : Mt l G yX6_restore cX6_restore 3 (some .int) (tg_R 2 100) [.ref (A 0), .int (0 : Int32)] (wX G A c (some (b0, j0)) (none)) (fun v w1 => v = some (.int 1) ∧ w1 = wX G A (cpW c j0) (some (b0, j0)) (none)) := by
  refine Mt_of2 (own := "TramGod") (nm := "restore") rfl rfl rfl (Nat.le_of_ble_eq_true rfl) (lv := [(0, .ref (A 0)), (1, .int (0 : Int32))]) rfl ?_
  refine V_iload_n eX6_restore_0 1 rfl ?_
  refine V_iconst (v := (0 : Int32)) eX6_restore_1 rfl ?_
  refine V_iconst (v := (1 : Int32)) eX6_restore_2 rfl ?_
  refine V_callSi (rest := []) eX6_restore_3 (ctX6_within l G _ (0 : Int32) (0 : Int32) (1 : Int32) rfl) tc_241 tw_239 tw_1 tw_240 hdX6_within rfl ⟨Nat.le_of_ble_eq_true rfl, Nat.le_of_ble_eq_true rfl⟩ rfl (Nat.le_of_ble_eq_true rfl) ⟨Nat.zero_le _, Nat.zero_le _⟩ ?_
  refine V_if_ne (tgt := 12) eX6_restore_6 rfl (fun _ => ?_) (fun hb => absurd hb (by decide))
  refine V_aload_n eX6_restore_12 0 rfl ?_
  refine V_get (v := .ref (A 28)) eX6_restore_13 inX6 0 rfl rfl 2 (Nat.le_of_ble_eq_true rfl) tw_209 rfl ?_
  refine V_iload_n eX6_restore_16 1 rfl ?_
  refine V_aald (v := .ref (b0 0)) eX6_restore_17 1 rfl (by unfold vp_in; decide) rfl ?_
  refine V_astore_n (lv' := [(2, .ref (b0 0)), (0, .ref (A 0)), (1, .int (0 : Int32))]) eX6_restore_18 (Nat.le_of_ble_eq_true rfl) rfl ?_
  refine V_aload_n eX6_restore_19 0 rfl ?_
  refine V_ifnonnull (tgt := 26) eX6_restore_20 rfl ?_
  refine V_aload_n eX6_restore_26 1 rfl ?_
  refine V_get (v := .ref (A 3)) eX6_restore_27 inX6 0 rfl rfl 1 (Nat.le_of_ble_eq_true rfl) tw_208 rfl ?_
  refine V_aload_n eX6_restore_30 0 rfl ?_
  refine V_callVF (rest := []) (wc := wW G (fun j => A (3 + j)) c ++ wW G b0 j0) (wr := [((A 0), .inr (6, [.ref (A 1), .ref (A 3), .ref (A 28), .ref (A 11), .ref (A 13), .ref (A 18), .ref (A 21), .ref (A 26), .ref (A 27)])), ((A 28), .inl (G.2.2.2.1, 2, .inr (.inr (.inr (.inr (wIr (some (b0, j0)) (none)))))))]) eX6_restore_31 (kt_copyFrom l G (fun j => A (3 + j)) b0 c j0) tc_622 tw_619 tw_3 tw_620 tw_621 2 rfl rfl hdX5_copyFrom rfl ⟨Nat.le_of_ble_eq_true rfl, Nat.le_of_ble_eq_true rfl⟩ ⟨Nat.le_of_ble_eq_true rfl, Nat.le_of_ble_eq_true rfl⟩ rfl (Nat.le_of_ble_eq_true rfl) [2, 3, 4, 5, 6, 7, 8, 9, 10, 11, 12, 13, 14, 15, 16, 17] [0, 1] rfl rfl rfl rfl (by decide) (fun v w1 hq => ?_)
  obtain ⟨rfl, rfl⟩ := hq
  refine V_iconst (v := (1 : Int32)) eX6_restore_34 rfl ?_
  exact V_ret eX6_restore_35 rfl ⟨rfl, rfl⟩
set_option maxRecDepth 20000 in
theorem kt_restore_011 (l : Launch) (G : tg_G) (A : Nat → Nat) (c : SS) (b0 : Nat → Nat) (j0 : SS) (b1 : Nat → Nat) (j1 : SS) : Mt l G yX6_restore cX6_restore 3 (some .int) (tg_R 2 100) [.ref (A 0), .int (0 : Int32)] (wX G A c (some (b0, j0)) (some (b1, j1))) (fun v w1 => v = some (.int 1) ∧ w1 = wX G A (cpW c j0) (some (b0, j0)) (some (b1, j1))) := by
  refine Mt_of2 (own := "TramGod") (nm := "restore") rfl rfl rfl (Nat.le_of_ble_eq_true rfl) (lv := [(0, .ref (A 0)), (1, .int (0 : Int32))]) rfl ?_
  refine V_iload_n eX6_restore_0 1 rfl ?_
  refine V_iconst (v := (0 : Int32)) eX6_restore_1 rfl ?_
  refine V_iconst (v := (1 : Int32)) eX6_restore_2 rfl ?_
  refine V_callSi (rest := []) eX6_restore_3 (ctX6_within l G _ (0 : Int32) (0 : Int32) (1 : Int32) rfl) tc_241 tw_239 tw_1 tw_240 hdX6_within rfl ⟨Nat.le_of_ble_eq_true rfl, Nat.le_of_ble_eq_true rfl⟩ rfl (Nat.le_of_ble_eq_true rfl) ⟨Nat.zero_le _, Nat.zero_le _⟩ ?_
  refine V_if_ne (tgt := 12) eX6_restore_6 rfl (fun _ => ?_) (fun hb => absurd hb (by decide))
  refine V_aload_n eX6_restore_12 0 rfl ?_
  refine V_get (v := .ref (A 28)) eX6_restore_13 inX6 0 rfl rfl 2 (Nat.le_of_ble_eq_true rfl) tw_209 rfl ?_
  refine V_iload_n eX6_restore_16 1 rfl ?_
  refine V_aald (v := .ref (b0 0)) eX6_restore_17 1 rfl (by unfold vp_in; decide) rfl ?_
  refine V_astore_n (lv' := [(2, .ref (b0 0)), (0, .ref (A 0)), (1, .int (0 : Int32))]) eX6_restore_18 (Nat.le_of_ble_eq_true rfl) rfl ?_
  refine V_aload_n eX6_restore_19 0 rfl ?_
  refine V_ifnonnull (tgt := 26) eX6_restore_20 rfl ?_
  refine V_aload_n eX6_restore_26 1 rfl ?_
  refine V_get (v := .ref (A 3)) eX6_restore_27 inX6 0 rfl rfl 1 (Nat.le_of_ble_eq_true rfl) tw_208 rfl ?_
  refine V_aload_n eX6_restore_30 0 rfl ?_
  refine V_callVF (rest := []) (wc := wW G (fun j => A (3 + j)) c ++ wW G b0 j0) (wr := [((A 0), .inr (6, [.ref (A 1), .ref (A 3), .ref (A 28), .ref (A 11), .ref (A 13), .ref (A 18), .ref (A 21), .ref (A 26), .ref (A 27)])), ((A 28), .inl (G.2.2.2.1, 2, .inr (.inr (.inr (.inr (wIr (some (b0, j0)) (some (b1, j1)))))))), ((b1 0), .inr (5, [.int (j1.1 1), .int (j1.1 2), .int (j1.1 3), .int (j1.1 4), .int (j1.1 5), .int (j1.1 6), .int (j1.1 7), .int (j1.1 8), .ref (b1 1), .ref (b1 2), .ref (b1 3), .ref (b1 4), .ref (b1 5), .ref (b1 6), .ref (b1 7)])), ((b1 1), .inl (G.2.1, 6, .inl (j1.2 1))), ((b1 2), .inl (G.2.1, 8, .inl (j1.2 2))), ((b1 3), .inl (G.2.1, 8, .inl (j1.2 3))), ((b1 4), .inl (G.2.1, 8, .inl (j1.2 4))), ((b1 5), .inl (G.2.1, 8, .inl (j1.2 5))), ((b1 6), .inl (G.2.1, 8, .inl (j1.2 6))), ((b1 7), .inl (G.2.1, 8, .inl (j1.2 7)))]) eX6_restore_31 (kt_copyFrom l G (fun j => A (3 + j)) b0 c j0) tc_622 tw_619 tw_3 tw_620 tw_621 2 rfl rfl hdX5_copyFrom rfl ⟨Nat.le_of_ble_eq_true rfl, Nat.le_of_ble_eq_true rfl⟩ ⟨Nat.le_of_ble_eq_true rfl, Nat.le_of_ble_eq_true rfl⟩ rfl (Nat.le_of_ble_eq_true rfl) [2, 3, 4, 5, 6, 7, 8, 9, 10, 11, 12, 13, 14, 15, 16, 17] [0, 1, 18, 19, 20, 21, 22, 23, 24, 25] rfl rfl rfl rfl (by decide) (fun v w1 hq => ?_)
  obtain ⟨rfl, rfl⟩ := hq
  refine V_iconst (v := (1 : Int32)) eX6_restore_34 rfl ?_
  refine V_w (w' := [((A 0), .inr (6, [.ref (A 1), .ref (A 3), .ref (A 28), .ref (A 11), .ref (A 13), .ref (A 18), .ref (A 21), .ref (A 26), .ref (A 27)])), ((A 28), .inl (G.2.2.2.1, 2, .inr (.inr (.inr (.inr (wIr (some (b0, j0)) (some (b1, j1)))))))), ((A 3), .inr (5, [.int ((cpW c j0).1 1), .int ((cpW c j0).1 2), .int ((cpW c j0).1 3), .int ((cpW c j0).1 4), .int ((cpW c j0).1 5), .int ((cpW c j0).1 6), .int ((cpW c j0).1 7), .int ((cpW c j0).1 8), .ref (A 4), .ref (A 5), .ref (A 6), .ref (A 7), .ref (A 8), .ref (A 9), .ref (A 10)])), ((A 4), .inl (G.2.1, 6, .inl ((cpW c j0).2 1))), ((A 5), .inl (G.2.1, 8, .inl ((cpW c j0).2 2))), ((A 6), .inl (G.2.1, 8, .inl ((cpW c j0).2 3))), ((A 7), .inl (G.2.1, 8, .inl ((cpW c j0).2 4))), ((A 8), .inl (G.2.1, 8, .inl ((cpW c j0).2 5))), ((A 9), .inl (G.2.1, 8, .inl ((cpW c j0).2 6))), ((A 10), .inl (G.2.1, 8, .inl ((cpW c j0).2 7))), ((b0 0), .inr (5, [.int (j0.1 1), .int (j0.1 2), .int (j0.1 3), .int (j0.1 4), .int (j0.1 5), .int (j0.1 6), .int (j0.1 7), .int (j0.1 8), .ref (b0 1), .ref (b0 2), .ref (b0 3), .ref (b0 4), .ref (b0 5), .ref (b0 6), .ref (b0 7)])), ((b0 1), .inl (G.2.1, 6, .inl (j0.2 1))), ((b0 2), .inl (G.2.1, 8, .inl (j0.2 2))), ((b0 3), .inl (G.2.1, 8, .inl (j0.2 3))), ((b0 4), .inl (G.2.1, 8, .inl (j0.2 4))), ((b0 5), .inl (G.2.1, 8, .inl (j0.2 5))), ((b0 6), .inl (G.2.1, 8, .inl (j0.2 6))), ((b0 7), .inl (G.2.1, 8, .inl (j0.2 7))), ((b1 0), .inr (5, [.int (j1.1 1), .int (j1.1 2), .int (j1.1 3), .int (j1.1 4), .int (j1.1 5), .int (j1.1 6), .int (j1.1 7), .int (j1.1 8), .ref (b1 1), .ref (b1 2), .ref (b1 3), .ref (b1 4), .ref (b1 5), .ref (b1 6), .ref (b1 7)])), ((b1 1), .inl (G.2.1, 6, .inl (j1.2 1))), ((b1 2), .inl (G.2.1, 8, .inl (j1.2 2))), ((b1 3), .inl (G.2.1, 8, .inl (j1.2 3))), ((b1 4), .inl (G.2.1, 8, .inl (j1.2 4))), ((b1 5), .inl (G.2.1, 8, .inl (j1.2 5))), ((b1 6), .inl (G.2.1, 8, .inl (j1.2 6))), ((b1 7), .inl (G.2.1, 8, .inl (j1.2 7)))]) [0, 1, 10, 11, 12, 13, 14, 15, 16, 17, 18, 19, 20, 21, 22, 23, 24, 25, 2, 3, 4, 5, 6, 7, 8, 9] (by decide) rfl ?_
  exact V_ret eX6_restore_35 rfl ⟨rfl, rfl⟩
set_option maxRecDepth 20000 in
theorem kt_restore_100 (l : Launch) (G : tg_G) (A : Nat → Nat) (c : SS) : Mt l G yX6_restore cX6_restore 3 (some .int) (tg_R 2 100) [.ref (A 0), .int (1 : Int32)] (wX G A c (none) (none)) (fun v w1 => v = some (.int (-3)) ∧ w1 = wX G A c (none) (none)) := by
  refine Mt_of2 (own := "TramGod") (nm := "restore") rfl rfl rfl (Nat.le_of_ble_eq_true rfl) (lv := [(0, .ref (A 0)), (1, .int (1 : Int32))]) rfl ?_
  refine V_iload_n eX6_restore_0 1 rfl ?_
  refine V_iconst (v := (0 : Int32)) eX6_restore_1 rfl ?_
  refine V_iconst (v := (1 : Int32)) eX6_restore_2 rfl ?_
  refine V_callSi (rest := []) eX6_restore_3 (ctX6_within l G _ (1 : Int32) (0 : Int32) (1 : Int32) rfl) tc_241 tw_239 tw_1 tw_240 hdX6_within rfl ⟨Nat.le_of_ble_eq_true rfl, Nat.le_of_ble_eq_true rfl⟩ rfl (Nat.le_of_ble_eq_true rfl) ⟨Nat.zero_le _, Nat.zero_le _⟩ ?_
  refine V_if_ne (tgt := 12) eX6_restore_6 rfl (fun _ => ?_) (fun hb => absurd hb (by decide))
  refine V_aload_n eX6_restore_12 0 rfl ?_
  refine V_get (v := .ref (A 28)) eX6_restore_13 inX6 0 rfl rfl 2 (Nat.le_of_ble_eq_true rfl) tw_209 rfl ?_
  refine V_iload_n eX6_restore_16 1 rfl ?_
  refine V_aald (v := .null) eX6_restore_17 1 rfl (by unfold vp_in; decide) rfl ?_
  refine V_astore_nN (lv' := [(2, .null), (0, .ref (A 0)), (1, .int (1 : Int32))]) eX6_restore_18 (Nat.le_of_ble_eq_true rfl) rfl ?_
  refine V_aload_nN eX6_restore_19 0 rfl ?_
  refine V_ifnonnullN eX6_restore_20 ?_
  refine V_bipush (v := (-3 : Int32)) eX6_restore_23 rfl ?_
  exact V_ret eX6_restore_25 rfl ⟨rfl, rfl⟩
set_option maxRecDepth 20000 in
theorem kt_restore_101 (l : Launch) (G : tg_G) (A : Nat → Nat) (c : SS) (b1 : Nat → Nat) (j1 : SS) : Mt l G yX6_restore cX6_restore 3 (some .int) (tg_R 2 100) [.ref (A 0), .int (1 : Int32)] (wX G A c (none) (some (b1, j1))) (fun v w1 => v = some (.int 1) ∧ w1 = wX G A (cpW c j1) (none) (some (b1, j1))) := by
  refine Mt_of2 (own := "TramGod") (nm := "restore") rfl rfl rfl (Nat.le_of_ble_eq_true rfl) (lv := [(0, .ref (A 0)), (1, .int (1 : Int32))]) rfl ?_
  refine V_iload_n eX6_restore_0 1 rfl ?_
  refine V_iconst (v := (0 : Int32)) eX6_restore_1 rfl ?_
  refine V_iconst (v := (1 : Int32)) eX6_restore_2 rfl ?_
  refine V_callSi (rest := []) eX6_restore_3 (ctX6_within l G _ (1 : Int32) (0 : Int32) (1 : Int32) rfl) tc_241 tw_239 tw_1 tw_240 hdX6_within rfl ⟨Nat.le_of_ble_eq_true rfl, Nat.le_of_ble_eq_true rfl⟩ rfl (Nat.le_of_ble_eq_true rfl) ⟨Nat.zero_le _, Nat.zero_le _⟩ ?_
  refine V_if_ne (tgt := 12) eX6_restore_6 rfl (fun _ => ?_) (fun hb => absurd hb (by decide))
  refine V_aload_n eX6_restore_12 0 rfl ?_
  refine V_get (v := .ref (A 28)) eX6_restore_13 inX6 0 rfl rfl 2 (Nat.le_of_ble_eq_true rfl) tw_209 rfl ?_
  refine V_iload_n eX6_restore_16 1 rfl ?_
  refine V_aald (v := .ref (b1 0)) eX6_restore_17 1 rfl (by unfold vp_in; decide) rfl ?_
  refine V_astore_n (lv' := [(2, .ref (b1 0)), (0, .ref (A 0)), (1, .int (1 : Int32))]) eX6_restore_18 (Nat.le_of_ble_eq_true rfl) rfl ?_
  refine V_aload_n eX6_restore_19 0 rfl ?_
  refine V_ifnonnull (tgt := 26) eX6_restore_20 rfl ?_
  refine V_aload_n eX6_restore_26 1 rfl ?_
  refine V_get (v := .ref (A 3)) eX6_restore_27 inX6 0 rfl rfl 1 (Nat.le_of_ble_eq_true rfl) tw_208 rfl ?_
  refine V_aload_n eX6_restore_30 0 rfl ?_
  refine V_callVF (rest := []) (wc := wW G (fun j => A (3 + j)) c ++ wW G b1 j1) (wr := [((A 0), .inr (6, [.ref (A 1), .ref (A 3), .ref (A 28), .ref (A 11), .ref (A 13), .ref (A 18), .ref (A 21), .ref (A 26), .ref (A 27)])), ((A 28), .inl (G.2.2.2.1, 2, .inr (.inr (.inr (.inr (wIr (none) (some (b1, j1))))))))]) eX6_restore_31 (kt_copyFrom l G (fun j => A (3 + j)) b1 c j1) tc_622 tw_619 tw_3 tw_620 tw_621 2 rfl rfl hdX5_copyFrom rfl ⟨Nat.le_of_ble_eq_true rfl, Nat.le_of_ble_eq_true rfl⟩ ⟨Nat.le_of_ble_eq_true rfl, Nat.le_of_ble_eq_true rfl⟩ rfl (Nat.le_of_ble_eq_true rfl) [2, 3, 4, 5, 6, 7, 8, 9, 10, 11, 12, 13, 14, 15, 16, 17] [0, 1] rfl rfl rfl rfl (by decide) (fun v w1 hq => ?_)
  obtain ⟨rfl, rfl⟩ := hq
  refine V_iconst (v := (1 : Int32)) eX6_restore_34 rfl ?_
  exact V_ret eX6_restore_35 rfl ⟨rfl, rfl⟩
set_option maxRecDepth 20000 in
theorem kt_restore_110 (l : Launch) (G : tg_G) (A : Nat → Nat) (c : SS) (b0 : Nat → Nat) (j0 : SS) : Mt l G yX6_restore cX6_restore 3 (some .int) (tg_R 2 100) [.ref (A 0), .int (1 : Int32)] (wX G A c (some (b0, j0)) (none)) (fun v w1 => v = some (.int (-3)) ∧ w1 = wX G A c (some (b0, j0)) (none)) := by
  refine Mt_of2 (own := "TramGod") (nm := "restore") rfl rfl rfl (Nat.le_of_ble_eq_true rfl) (lv := [(0, .ref (A 0)), (1, .int (1 : Int32))]) rfl ?_
  refine V_iload_n eX6_restore_0 1 rfl ?_
  refine V_iconst (v := (0 : Int32)) eX6_restore_1 rfl ?_
  refine V_iconst (v := (1 : Int32)) eX6_restore_2 rfl ?_
  refine V_callSi (rest := []) eX6_restore_3 (ctX6_within l G _ (1 : Int32) (0 : Int32) (1 : Int32) rfl) tc_241 tw_239 tw_1 tw_240 hdX6_within rfl ⟨Nat.le_of_ble_eq_true rfl, Nat.le_of_ble_eq_true rfl⟩ rfl (Nat.le_of_ble_eq_true rfl) ⟨Nat.zero_le _, Nat.zero_le _⟩ ?_
  refine V_if_ne (tgt := 12) eX6_restore_6 rfl (fun _ => ?_) (fun hb => absurd hb (by decide))
  refine V_aload_n eX6_restore_12 0 rfl ?_
  refine V_get (v := .ref (A 28)) eX6_restore_13 inX6 0 rfl rfl 2 (Nat.le_of_ble_eq_true rfl) tw_209 rfl ?_
  refine V_iload_n eX6_restore_16 1 rfl ?_
  refine V_aald (v := .null) eX6_restore_17 1 rfl (by unfold vp_in; decide) rfl ?_
  refine V_astore_nN (lv' := [(2, .null), (0, .ref (A 0)), (1, .int (1 : Int32))]) eX6_restore_18 (Nat.le_of_ble_eq_true rfl) rfl ?_
  refine V_aload_nN eX6_restore_19 0 rfl ?_
  refine V_ifnonnullN eX6_restore_20 ?_
  refine V_bipush (v := (-3 : Int32)) eX6_restore_23 rfl ?_
  exact V_ret eX6_restore_25 rfl ⟨rfl, rfl⟩
set_option maxRecDepth 20000 in
theorem kt_restore_111 (l : Launch) (G : tg_G) (A : Nat → Nat) (c : SS) (b0 : Nat → Nat) (j0 : SS) (b1 : Nat → Nat) (j1 : SS) : Mt l G yX6_restore cX6_restore 3 (some .int) (tg_R 2 100) [.ref (A 0), .int (1 : Int32)] (wX G A c (some (b0, j0)) (some (b1, j1))) (fun v w1 => v = some (.int 1) ∧ w1 = wX G A (cpW c j1) (some (b0, j0)) (some (b1, j1))) := by
  refine Mt_of2 (own := "TramGod") (nm := "restore") rfl rfl rfl (Nat.le_of_ble_eq_true rfl) (lv := [(0, .ref (A 0)), (1, .int (1 : Int32))]) rfl ?_
  refine V_iload_n eX6_restore_0 1 rfl ?_
  refine V_iconst (v := (0 : Int32)) eX6_restore_1 rfl ?_
  refine V_iconst (v := (1 : Int32)) eX6_restore_2 rfl ?_
  refine V_callSi (rest := []) eX6_restore_3 (ctX6_within l G _ (1 : Int32) (0 : Int32) (1 : Int32) rfl) tc_241 tw_239 tw_1 tw_240 hdX6_within rfl ⟨Nat.le_of_ble_eq_true rfl, Nat.le_of_ble_eq_true rfl⟩ rfl (Nat.le_of_ble_eq_true rfl) ⟨Nat.zero_le _, Nat.zero_le _⟩ ?_
  refine V_if_ne (tgt := 12) eX6_restore_6 rfl (fun _ => ?_) (fun hb => absurd hb (by decide))
  refine V_aload_n eX6_restore_12 0 rfl ?_
  refine V_get (v := .ref (A 28)) eX6_restore_13 inX6 0 rfl rfl 2 (Nat.le_of_ble_eq_true rfl) tw_209 rfl ?_
  refine V_iload_n eX6_restore_16 1 rfl ?_
  refine V_aald (v := .ref (b1 0)) eX6_restore_17 1 rfl (by unfold vp_in; decide) rfl ?_
  refine V_astore_n (lv' := [(2, .ref (b1 0)), (0, .ref (A 0)), (1, .int (1 : Int32))]) eX6_restore_18 (Nat.le_of_ble_eq_true rfl) rfl ?_
  refine V_aload_n eX6_restore_19 0 rfl ?_
  refine V_ifnonnull (tgt := 26) eX6_restore_20 rfl ?_
  refine V_aload_n eX6_restore_26 1 rfl ?_
  refine V_get (v := .ref (A 3)) eX6_restore_27 inX6 0 rfl rfl 1 (Nat.le_of_ble_eq_true rfl) tw_208 rfl ?_
  refine V_aload_n eX6_restore_30 0 rfl ?_
  refine V_callVF (rest := []) (wc := wW G (fun j => A (3 + j)) c ++ wW G b1 j1) (wr := [((A 0), .inr (6, [.ref (A 1), .ref (A 3), .ref (A 28), .ref (A 11), .ref (A 13), .ref (A 18), .ref (A 21), .ref (A 26), .ref (A 27)])), ((A 28), .inl (G.2.2.2.1, 2, .inr (.inr (.inr (.inr (wIr (some (b0, j0)) (some (b1, j1)))))))), ((b0 0), .inr (5, [.int (j0.1 1), .int (j0.1 2), .int (j0.1 3), .int (j0.1 4), .int (j0.1 5), .int (j0.1 6), .int (j0.1 7), .int (j0.1 8), .ref (b0 1), .ref (b0 2), .ref (b0 3), .ref (b0 4), .ref (b0 5), .ref (b0 6), .ref (b0 7)])), ((b0 1), .inl (G.2.1, 6, .inl (j0.2 1))), ((b0 2), .inl (G.2.1, 8, .inl (j0.2 2))), ((b0 3), .inl (G.2.1, 8, .inl (j0.2 3))), ((b0 4), .inl (G.2.1, 8, .inl (j0.2 4))), ((b0 5), .inl (G.2.1, 8, .inl (j0.2 5))), ((b0 6), .inl (G.2.1, 8, .inl (j0.2 6))), ((b0 7), .inl (G.2.1, 8, .inl (j0.2 7)))]) eX6_restore_31 (kt_copyFrom l G (fun j => A (3 + j)) b1 c j1) tc_622 tw_619 tw_3 tw_620 tw_621 2 rfl rfl hdX5_copyFrom rfl ⟨Nat.le_of_ble_eq_true rfl, Nat.le_of_ble_eq_true rfl⟩ ⟨Nat.le_of_ble_eq_true rfl, Nat.le_of_ble_eq_true rfl⟩ rfl (Nat.le_of_ble_eq_true rfl) [2, 3, 4, 5, 6, 7, 8, 9, 18, 19, 20, 21, 22, 23, 24, 25] [0, 1, 10, 11, 12, 13, 14, 15, 16, 17] rfl rfl rfl rfl (by decide) (fun v w1 hq => ?_)
  obtain ⟨rfl, rfl⟩ := hq
  refine V_iconst (v := (1 : Int32)) eX6_restore_34 rfl ?_
  refine V_w (w' := [((A 0), .inr (6, [.ref (A 1), .ref (A 3), .ref (A 28), .ref (A 11), .ref (A 13), .ref (A 18), .ref (A 21), .ref (A 26), .ref (A 27)])), ((A 28), .inl (G.2.2.2.1, 2, .inr (.inr (.inr (.inr (wIr (some (b0, j0)) (some (b1, j1)))))))), ((A 3), .inr (5, [.int ((cpW c j1).1 1), .int ((cpW c j1).1 2), .int ((cpW c j1).1 3), .int ((cpW c j1).1 4), .int ((cpW c j1).1 5), .int ((cpW c j1).1 6), .int ((cpW c j1).1 7), .int ((cpW c j1).1 8), .ref (A 4), .ref (A 5), .ref (A 6), .ref (A 7), .ref (A 8), .ref (A 9), .ref (A 10)])), ((A 4), .inl (G.2.1, 6, .inl ((cpW c j1).2 1))), ((A 5), .inl (G.2.1, 8, .inl ((cpW c j1).2 2))), ((A 6), .inl (G.2.1, 8, .inl ((cpW c j1).2 3))), ((A 7), .inl (G.2.1, 8, .inl ((cpW c j1).2 4))), ((A 8), .inl (G.2.1, 8, .inl ((cpW c j1).2 5))), ((A 9), .inl (G.2.1, 8, .inl ((cpW c j1).2 6))), ((A 10), .inl (G.2.1, 8, .inl ((cpW c j1).2 7))), ((b0 0), .inr (5, [.int (j0.1 1), .int (j0.1 2), .int (j0.1 3), .int (j0.1 4), .int (j0.1 5), .int (j0.1 6), .int (j0.1 7), .int (j0.1 8), .ref (b0 1), .ref (b0 2), .ref (b0 3), .ref (b0 4), .ref (b0 5), .ref (b0 6), .ref (b0 7)])), ((b0 1), .inl (G.2.1, 6, .inl (j0.2 1))), ((b0 2), .inl (G.2.1, 8, .inl (j0.2 2))), ((b0 3), .inl (G.2.1, 8, .inl (j0.2 3))), ((b0 4), .inl (G.2.1, 8, .inl (j0.2 4))), ((b0 5), .inl (G.2.1, 8, .inl (j0.2 5))), ((b0 6), .inl (G.2.1, 8, .inl (j0.2 6))), ((b0 7), .inl (G.2.1, 8, .inl (j0.2 7))), ((b1 0), .inr (5, [.int (j1.1 1), .int (j1.1 2), .int (j1.1 3), .int (j1.1 4), .int (j1.1 5), .int (j1.1 6), .int (j1.1 7), .int (j1.1 8), .ref (b1 1), .ref (b1 2), .ref (b1 3), .ref (b1 4), .ref (b1 5), .ref (b1 6), .ref (b1 7)])), ((b1 1), .inl (G.2.1, 6, .inl (j1.2 1))), ((b1 2), .inl (G.2.1, 8, .inl (j1.2 2))), ((b1 3), .inl (G.2.1, 8, .inl (j1.2 3))), ((b1 4), .inl (G.2.1, 8, .inl (j1.2 4))), ((b1 5), .inl (G.2.1, 8, .inl (j1.2 5))), ((b1 6), .inl (G.2.1, 8, .inl (j1.2 6))), ((b1 7), .inl (G.2.1, 8, .inl (j1.2 7)))]) [0, 1, 10, 11, 12, 13, 14, 15, 16, 17, 2, 3, 4, 5, 6, 7, 8, 9, 18, 19, 20, 21, 22, 23, 24, 25] (by decide) rfl ?_
  exact V_ret eX6_restore_35 rfl ⟨rfl, rfl⟩
theorem kt_restore_out (l : Launch) (G : tg_G) (A : Nat → Nat) (p1 : Int32) (w : va_W) (hk : fX6_within p1 0 1 = 0) : Mt l G yX6_restore cX6_restore 3 (some .int) (tg_R 2 100) [.ref (A 0), .int p1] w (fun v w1 => v = some (.int (-2)) ∧ w1 = w) := by
  refine Mt_of2 (own := "TramGod") (nm := "restore") rfl rfl rfl (Nat.le_of_ble_eq_true rfl) (lv := [(0, .ref (A 0)), (1, .int p1)]) rfl ?_
  refine V_iload_n eX6_restore_0 1 rfl ?_
  refine V_iconst (v := (0 : Int32)) eX6_restore_1 rfl ?_
  refine V_iconst (v := (1 : Int32)) eX6_restore_2 rfl ?_
  refine V_callSi (rest := []) eX6_restore_3 (ctX6_within l G _ p1 (0 : Int32) (1 : Int32) rfl) tc_241 tw_239 tw_1 tw_240 hdX6_within rfl ⟨Nat.le_of_ble_eq_true rfl, Nat.le_of_ble_eq_true rfl⟩ rfl (Nat.le_of_ble_eq_true rfl) ⟨Nat.zero_le _, Nat.zero_le _⟩ ?_
  refine V_if_ne (tgt := 12) eX6_restore_6 rfl (fun hb => absurd hk hb) (fun _ => ?_)
  refine V_bipush (v := (-2 : Int32)) eX6_restore_9 rfl ?_
  exact V_ret eX6_restore_11 rfl ⟨rfl, rfl⟩
