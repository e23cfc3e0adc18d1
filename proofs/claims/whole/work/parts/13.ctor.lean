theorem ta_int : Cond.arrayClass .int ∈ tg_tbl := mem_t (List.mem_of_getElem? (i := 84) (by decide +kernel)) rfl
theorem ta_bool : Cond.arrayClass .boolean ∈ tg_tbl := mem_t (List.mem_of_getElem? (i := 788) (by decide +kernel)) rfl
theorem hdX1_init : yX1_init.cls ≠ "java/lang/invoke/MethodHandle" ∧ yX1_init.cls ≠ "java/lang/invoke/VarHandle" ∧ (parseMethodDescriptor yX1_init.desc).map (fun d => d.parameters.length) = some 0 := by decide +kernel
theorem eX1_init_0 : Dc cX1_init 0 (.aload_n 0) 1 1 := ⟨by decide +kernel, rfl⟩
theorem eX1_init_1 : Dc cX1_init 1 (.invokespecial 3) 3 4 := ⟨by decide +kernel, rfl⟩
theorem eX1_init_4 : Dc cX1_init 4 (.aload_n 0) 1 5 := ⟨by decide +kernel, rfl⟩
theorem eX1_init_5 : Dc cX1_init 5 (.bipush 20) 2 7 := ⟨by decide +kernel, rfl⟩
theorem eX1_init_7 : Dc cX1_init 7 (.newarray .int) 2 9 := ⟨by decide +kernel, rfl⟩
theorem eX1_init_9 : Dc cX1_init 9 (.putfield 9) 3 12 := ⟨by decide +kernel, rfl⟩
theorem eX1_init_12 : Dc cX1_init 12 (.return_) 1 13 := ⟨by decide +kernel, rfl⟩
set_option maxRecDepth 20000 in
theorem ktX1_init (l : Launch) (G : tg_G) (h0 : Nat)  : Mt l G yX1_init cX1_init 1 none ({ frames := 1, cells := 1, slots := 20, locals := 20 } : Room) [.ref h0] [(h0, .inr (1, [.null, .int 0]))] (fun v w1 => v = none ∧ ∃ (q1 : Nat), w1 = [(h0, .inr (1, [.ref q1, .int 0])), (q1, .inl (G.2.1, 20, .inl (fun _ => 0)))]) := by
  refine Mt_of2 (own := "TramGod$Pad") (nm := "<init>") rfl rfl rfl (Nat.le_of_ble_eq_true rfl) (lv := [(0, .ref h0)]) rfl ?_
  refine V_aload_n eX1_init_0 0 rfl ?_
  refine V_objInit eX1_init_1 tw_25 tw_18 tc_19 (Nat.le_of_ble_eq_true rfl) (Nat.le_of_ble_eq_true rfl) ?_
  refine V_aload_n eX1_init_4 0 rfl ?_
  refine V_bipush (v := (20 : Int32)) eX1_init_5 rfl ?_
  refine V_newi (N := 20) eX1_init_7 ta_int (by decide) (by decide +kernel) (Nat.le_of_ble_eq_true rfl) (Nat.le_of_ble_eq_true rfl) (Nat.le_of_ble_eq_true rfl) (fun q1 => ?_)
  refine V_putF (w' := [(h0, .inr (1, [.ref q1, .int 0])), (q1, .inl (G.2.1, 20, .inl (fun _ => 0)))]) eX1_init_9 rfl inX1 tyX1 tyX1_ok nmX1 0 rfl rfl 0 (Nat.le_of_ble_eq_true rfl) tw_26 rfl rfl rfl rfl rfl (Nat.le_of_ble_eq_true rfl) rfl ?_
  exact V_vret eX1_init_12 rfl ⟨rfl, q1, rfl⟩
theorem hdX5_init : yX5_init.cls ≠ "java/lang/invoke/MethodHandle" ∧ yX5_init.cls ≠ "java/lang/invoke/VarHandle" ∧ (parseMethodDescriptor yX5_init.desc).map (fun d => d.parameters.length) = some 0 := by decide +kernel
theorem eX5_init_0 : Dc cX5_init 0 (.aload_n 0) 1 1 := ⟨by decide +kernel, rfl⟩
theorem eX5_init_1 : Dc cX5_init 1 (.invokespecial 3) 3 4 := ⟨by decide +kernel, rfl⟩
theorem eX5_init_4 : Dc cX5_init 4 (.aload_n 0) 1 5 := ⟨by decide +kernel, rfl⟩
theorem eX5_init_5 : Dc cX5_init 5 (.iconst 3) 1 6 := ⟨by decide +kernel, rfl⟩
theorem eX5_init_6 : Dc cX5_init 6 (.putfield 9) 3 9 := ⟨by decide +kernel, rfl⟩
theorem eX5_init_9 : Dc cX5_init 9 (.aload_n 0) 1 10 := ⟨by decide +kernel, rfl⟩
theorem eX5_init_10 : Dc cX5_init 10 (.iconst 4) 1 11 := ⟨by decide +kernel, rfl⟩
theorem eX5_init_11 : Dc cX5_init 11 (.putfield 15) 3 14 := ⟨by decide +kernel, rfl⟩
theorem eX5_init_14 : Dc cX5_init 14 (.aload_n 0) 1 15 := ⟨by decide +kernel, rfl⟩
theorem eX5_init_15 : Dc cX5_init 15 (.bipush 9) 2 17 := ⟨by decide +kernel, rfl⟩
theorem eX5_init_17 : Dc cX5_init 17 (.putfield 18) 3 20 := ⟨by decide +kernel, rfl⟩
theorem eX5_init_20 : Dc cX5_init 20 (.aload_n 0) 1 21 := ⟨by decide +kernel, rfl⟩
theorem eX5_init_21 : Dc cX5_init 21 (.bipush 6) 2 23 := ⟨by decide +kernel, rfl⟩
theorem eX5_init_23 : Dc cX5_init 23 (.newarray .int) 2 25 := ⟨by decide +kernel, rfl⟩
theorem eX5_init_25 : Dc cX5_init 25 (.dup) 1 26 := ⟨by decide +kernel, rfl⟩
theorem eX5_init_26 : Dc cX5_init 26 (.iconst 0) 1 27 := ⟨by decide +kernel, rfl⟩
theorem eX5_init_27 : Dc cX5_init 27 (.iconst 5) 1 28 := ⟨by decide +kernel, rfl⟩
theorem eX5_init_28 : Dc cX5_init 28 (.iastore) 1 29 := ⟨by decide +kernel, rfl⟩
theorem eX5_init_29 : Dc cX5_init 29 (.dup) 1 30 := ⟨by decide +kernel, rfl⟩
theorem eX5_init_30 : Dc cX5_init 30 (.iconst 1) 1 31 := ⟨by decide +kernel, rfl⟩
theorem eX5_init_31 : Dc cX5_init 31 (.iconst 5) 1 32 := ⟨by decide +kernel, rfl⟩
theorem eX5_init_32 : Dc cX5_init 32 (.iastore) 1 33 := ⟨by decide +kernel, rfl⟩
theorem eX5_init_33 : Dc cX5_init 33 (.dup) 1 34 := ⟨by decide +kernel, rfl⟩
theorem eX5_init_34 : Dc cX5_init 34 (.iconst 2) 1 35 := ⟨by decide +kernel, rfl⟩
theorem eX5_init_35 : Dc cX5_init 35 (.iconst 5) 1 36 := ⟨by decide +kernel, rfl⟩
theorem eX5_init_36 : Dc cX5_init 36 (.iastore) 1 37 := ⟨by decide +kernel, rfl⟩
theorem eX5_init_37 : Dc cX5_init 37 (.dup) 1 38 := ⟨by decide +kernel, rfl⟩
theorem eX5_init_38 : Dc cX5_init 38 (.iconst 3) 1 39 := ⟨by decide +kernel, rfl⟩
theorem eX5_init_39 : Dc cX5_init 39 (.iconst 0) 1 40 := ⟨by decide +kernel, rfl⟩
theorem eX5_init_40 : Dc cX5_init 40 (.iastore) 1 41 := ⟨by decide +kernel, rfl⟩
theorem eX5_init_41 : Dc cX5_init 41 (.dup) 1 42 := ⟨by decide +kernel, rfl⟩
theorem eX5_init_42 : Dc cX5_init 42 (.iconst 4) 1 43 := ⟨by decide +kernel, rfl⟩
theorem eX5_init_43 : Dc cX5_init 43 (.iconst 0) 1 44 := ⟨by decide +kernel, rfl⟩
theorem eX5_init_44 : Dc cX5_init 44 (.iastore) 1 45 := ⟨by decide +kernel, rfl⟩
theorem eX5_init_45 : Dc cX5_init 45 (.dup) 1 46 := ⟨by decide +kernel, rfl⟩
theorem eX5_init_46 : Dc cX5_init 46 (.iconst 5) 1 47 := ⟨by decide +kernel, rfl⟩
theorem eX5_init_47 : Dc cX5_init 47 (.iconst 0) 1 48 := ⟨by decide +kernel, rfl⟩
theorem eX5_init_48 : Dc cX5_init 48 (.iastore) 1 49 := ⟨by decide +kernel, rfl⟩
theorem eX5_init_49 : Dc cX5_init 49 (.putfield 21) 3 52 := ⟨by decide +kernel, rfl⟩
theorem eX5_init_52 : Dc cX5_init 52 (.aload_n 0) 1 53 := ⟨by decide +kernel, rfl⟩
theorem eX5_init_53 : Dc cX5_init 53 (.bipush 8) 2 55 := ⟨by decide +kernel, rfl⟩
theorem eX5_init_55 : Dc cX5_init 55 (.newarray .int) 2 57 := ⟨by decide +kernel, rfl⟩
theorem eX5_init_57 : Dc cX5_init 57 (.putfield 25) 3 60 := ⟨by decide +kernel, rfl⟩
theorem eX5_init_60 : Dc cX5_init 60 (.aload_n 0) 1 61 := ⟨by decide +kernel, rfl⟩
theorem eX5_init_61 : Dc cX5_init 61 (.bipush 8) 2 63 := ⟨by decide +kernel, rfl⟩
theorem eX5_init_63 : Dc cX5_init 63 (.newarray .int) 2 65 := ⟨by decide +kernel, rfl⟩
theorem eX5_init_65 : Dc cX5_init 65 (.putfield 28) 3 68 := ⟨by decide +kernel, rfl⟩
theorem eX5_init_68 : Dc cX5_init 68 (.aload_n 0) 1 69 := ⟨by decide +kernel, rfl⟩
theorem eX5_init_69 : Dc cX5_init 69 (.bipush 8) 2 71 := ⟨by decide +kernel, rfl⟩
theorem eX5_init_71 : Dc cX5_init 71 (.newarray .int) 2 73 := ⟨by decide +kernel, rfl⟩
theorem eX5_init_73 : Dc cX5_init 73 (.putfield 31) 3 76 := ⟨by decide +kernel, rfl⟩
theorem eX5_init_76 : Dc cX5_init 76 (.aload_n 0) 1 77 := ⟨by decide +kernel, rfl⟩
theorem eX5_init_77 : Dc cX5_init 77 (.bipush 8) 2 79 := ⟨by decide +kernel, rfl⟩
theorem eX5_init_79 : Dc cX5_init 79 (.newarray .int) 2 81 := ⟨by decide +kernel, rfl⟩
theorem eX5_init_81 : Dc cX5_init 81 (.putfield 34) 3 84 := ⟨by decide +kernel, rfl⟩
theorem eX5_init_84 : Dc cX5_init 84 (.aload_n 0) 1 85 := ⟨by decide +kernel, rfl⟩
theorem eX5_init_85 : Dc cX5_init 85 (.bipush 8) 2 87 := ⟨by decide +kernel, rfl⟩
theorem eX5_init_87 : Dc cX5_init 87 (.newarray .int) 2 89 := ⟨by decide +kernel, rfl⟩
theorem eX5_init_89 : Dc cX5_init 89 (.putfield 37) 3 92 := ⟨by decide +kernel, rfl⟩
theorem eX5_init_92 : Dc cX5_init 92 (.aload_n 0) 1 93 := ⟨by decide +kernel, rfl⟩
theorem eX5_init_93 : Dc cX5_init 93 (.bipush 8) 2 95 := ⟨by decide +kernel, rfl⟩
theorem eX5_init_95 : Dc cX5_init 95 (.newarray .int) 2 97 := ⟨by decide +kernel, rfl⟩
theorem eX5_init_97 : Dc cX5_init 97 (.putfield 40) 3 100 := ⟨by decide +kernel, rfl⟩
theorem eX5_init_100 : Dc cX5_init 100 (.return_) 1 101 := ⟨by decide +kernel, rfl⟩
set_option maxRecDepth 20000 in
theorem ktX5_init (l : Launch) (G : tg_G) (h0 : Nat)  : Mt l G yX5_init cX5_init 1 none ({ frames := 1, cells := 7, slots := 54, locals := 20 } : Room) [.ref h0] [(h0, .inr (5, [.int 0, .int 0, .int 0, .int 0, .int 0, .int 0, .int 0, .int 0, .null, .null, .null, .null, .null, .null, .null]))] (fun v w1 => v = none ∧ ∃ (q1 q2 q3 q4 q5 q6 q7 : Nat), w1 = [(h0, .inr (5, [.int (3 : Int32), .int 0, .int (4 : Int32), .int (9 : Int32), .int 0, .int 0, .int 0, .int 0, .ref q1, .ref q2, .ref q3, .ref q4, .ref q5, .ref q6, .ref q7])), (q1, .inl (G.2.1, 6, .inl (upd (upd (upd (upd (upd (upd (fun _ => 0) 0 (5 : Int32)) 1 (5 : Int32)) 2 (5 : Int32)) 3 (0 : Int32)) 4 (0 : Int32)) 5 (0 : Int32)))), (q2, .inl (G.2.1, 8, .inl (fun _ => 0))), (q3, .inl (G.2.1, 8, .inl (fun _ => 0))), (q4, .inl (G.2.1, 8, .inl (fun _ => 0))), (q5, .inl (G.2.1, 8, .inl (fun _ => 0))), (q6, .inl (G.2.1, 8, .inl (fun _ => 0))), (q7, .inl (G.2.1, 8, .inl (fun _ => 0)))]) := by
  refine Mt_of2 (own := "TramGod$World") (nm := "<init>") rfl rfl rfl (Nat.le_of_ble_eq_true rfl) (lv := [(0, .ref h0)]) rfl ?_
  refine V_aload_n eX5_init_0 0 rfl ?_
  refine V_objInit eX5_init_1 tw_41 tw_18 tc_19 (Nat.le_of_ble_eq_true rfl) (Nat.le_of_ble_eq_true rfl) ?_
  refine V_aload_n eX5_init_4 0 rfl ?_
  refine V_iconst (v := (3 : Int32)) eX5_init_5 rfl ?_
  refine V_put (w' := [(h0, .inr (5, [.int (3 : Int32), .int 0, .int 0, .int 0, .int 0, .int 0, .int 0, .int 0, .null, .null, .null, .null, .null, .null, .null]))]) eX5_init_6 inX5 tyX5 tyX5_ok nmX5 0 rfl rfl 0 (Nat.le_of_ble_eq_true rfl) tw_42 rfl rfl rfl rfl (Nat.le_of_ble_eq_true rfl) rfl ?_
  refine V_aload_n eX5_init_9 0 rfl ?_
  refine V_iconst (v := (4 : Int32)) eX5_init_10 rfl ?_
  refine V_put (w' := [(h0, .inr (5, [.int (3 : Int32), .int 0, .int (4 : Int32), .int 0, .int 0, .int 0, .int 0, .int 0, .null, .null, .null, .null, .null, .null, .null]))]) eX5_init_11 inX5 tyX5 tyX5_ok nmX5 0 rfl rfl 2 (Nat.le_of_ble_eq_true rfl) tw_48 rfl rfl rfl rfl (Nat.le_of_ble_eq_true rfl) rfl ?_
  refine V_aload_n eX5_init_14 0 rfl ?_
  refine V_bipush (v := (9 : Int32)) eX5_init_15 rfl ?_
  refine V_put (w' := [(h0, .inr (5, [.int (3 : Int32), .int 0, .int (4 : Int32), .int (9 : Int32), .int 0, .int 0, .int 0, .int 0, .null, .null, .null, .null, .null, .null, .null]))]) eX5_init_17 inX5 tyX5 tyX5_ok nmX5 0 rfl rfl 3 (Nat.le_of_ble_eq_true rfl) tw_52 rfl rfl rfl rfl (Nat.le_of_ble_eq_true rfl) rfl ?_
  refine V_aload_n eX5_init_20 0 rfl ?_
  refine V_bipush (v := (6 : Int32)) eX5_init_21 rfl ?_
  refine V_newi (N := 6) eX5_init_23 ta_int (by decide) (by decide +kernel) (Nat.le_of_ble_eq_true rfl) (Nat.le_of_ble_eq_true rfl) (Nat.le_of_ble_eq_true rfl) (fun q1 => ?_)
  refine V_dup eX5_init_25 rfl ?_
  refine V_iconst (v := (0 : Int32)) eX5_init_26 rfl ?_
  refine V_iconst (v := (5 : Int32)) eX5_init_27 rfl ?_
  refine V_iast (w' := [(h0, .inr (5, [.int (3 : Int32), .int 0, .int (4 : Int32), .int (9 : Int32), .int 0, .int 0, .int 0, .int 0, .null, .null, .null, .null, .null, .null, .null])), (q1, .inl (G.2.1, 6, .inl (upd (fun _ => 0) 0 (5 : Int32))))]) eX5_init_28 1 rfl (by unfold vp_in; decide) rfl ?_
  refine V_dup eX5_init_29 rfl ?_
  refine V_iconst (v := (1 : Int32)) eX5_init_30 rfl ?_
  refine V_iconst (v := (5 : Int32)) eX5_init_31 rfl ?_
  refine V_iast (w' := [(h0, .inr (5, [.int (3 : Int32), .int 0, .int (4 : Int32), .int (9 : Int32), .int 0, .int 0, .int 0, .int 0, .null, .null, .null, .null, .null, .null, .null])), (q1, .inl (G.2.1, 6, .inl (upd (upd (fun _ => 0) 0 (5 : Int32)) 1 (5 : Int32))))]) eX5_init_32 1 rfl (by unfold vp_in; decide) rfl ?_
  refine V_dup eX5_init_33 rfl ?_
  refine V_iconst (v := (2 : Int32)) eX5_init_34 rfl ?_
  refine V_iconst (v := (5 : Int32)) eX5_init_35 rfl ?_
  refine V_iast (w' := [(h0, .inr (5, [.int (3 : Int32), .int 0, .int (4 : Int32), .int (9 : Int32), .int 0, .int 0, .int 0, .int 0, .null, .null, .null, .null, .null, .null, .null])), (q1, .inl (G.2.1, 6, .inl (upd (upd (upd (fun _ => 0) 0 (5 : Int32)) 1 (5 : Int32)) 2 (5 : Int32))))]) eX5_init_36 1 rfl (by unfold vp_in; decide) rfl ?_
  refine V_dup eX5_init_37 rfl ?_
  refine V_iconst (v := (3 : Int32)) eX5_init_38 rfl ?_
  refine V_iconst (v := (0 : Int32)) eX5_init_39 rfl ?_
  refine V_iast (w' := [(h0, .inr (5, [.int (3 : Int32), .int 0, .int (4 : Int32), .int (9 : Int32), .int 0, .int 0, .int 0, .int 0, .null, .null, .null, .null, .null, .null, .null])), (q1, .inl (G.2.1, 6, .inl (upd (upd (upd (upd (fun _ => 0) 0 (5 : Int32)) 1 (5 : Int32)) 2 (5 : Int32)) 3 (0 : Int32))))]) eX5_init_40 1 rfl (by unfold vp_in; decide) rfl ?_
  refine V_dup eX5_init_41 rfl ?_
  refine V_iconst (v := (4 : Int32)) eX5_init_42 rfl ?_
  refine V_iconst (v := (0 : Int32)) eX5_init_43 rfl ?_
  refine V_iast (w' := [(h0, .inr (5, [.int (3 : Int32), .int 0, .int (4 : Int32), .int (9 : Int32), .int 0, .int 0, .int 0, .int 0, .null, .null, .null, .null, .null, .null, .null])), (q1, .inl (G.2.1, 6, .inl (upd (upd (upd (upd (upd (fun _ => 0) 0 (5 : Int32)) 1 (5 : Int32)) 2 (5 : Int32)) 3 (0 : Int32)) 4 (0 : Int32))))]) eX5_init_44 1 rfl (by unfold vp_in; decide) rfl ?_
  refine V_dup eX5_init_45 rfl ?_
  refine V_iconst (v := (5 : Int32)) eX5_init_46 rfl ?_
  refine V_iconst (v := (0 : Int32)) eX5_init_47 rfl ?_
  refine V_iast (w' := [(h0, .inr (5, [.int (3 : Int32), .int 0, .int (4 : Int32), .int (9 : Int32), .int 0, .int 0, .int 0, .int 0, .null, .null, .null, .null, .null, .null, .null])), (q1, .inl (G.2.1, 6, .inl (upd (upd (upd (upd (upd (upd (fun _ => 0) 0 (5 : Int32)) 1 (5 : Int32)) 2 (5 : Int32)) 3 (0 : Int32)) 4 (0 : Int32)) 5 (0 : Int32))))]) eX5_init_48 1 rfl (by unfold vp_in; decide) rfl ?_
  refine V_putF (w' := [(h0, .inr (5, [.int (3 : Int32), .int 0, .int (4 : Int32), .int (9 : Int32), .int 0, .int 0, .int 0, .int 0, .ref q1, .null, .null, .null, .null, .null, .null])), (q1, .inl (G.2.1, 6, .inl (upd (upd (upd (upd (upd (upd (fun _ => 0) 0 (5 : Int32)) 1 (5 : Int32)) 2 (5 : Int32)) 3 (0 : Int32)) 4 (0 : Int32)) 5 (0 : Int32))))]) eX5_init_49 rfl inX5 tyX5 tyX5_ok nmX5 0 rfl rfl 8 (Nat.le_of_ble_eq_true rfl) tw_62 rfl rfl rfl rfl rfl (Nat.le_of_ble_eq_true rfl) rfl ?_
  refine V_aload_n eX5_init_52 0 rfl ?_
  refine V_bipush (v := (8 : Int32)) eX5_init_53 rfl ?_
  refine V_newi (N := 8) eX5_init_55 ta_int (by decide) (by decide +kernel) (Nat.le_of_ble_eq_true rfl) (Nat.le_of_ble_eq_true rfl) (Nat.le_of_ble_eq_true rfl) (fun q2 => ?_)
  refine V_putF (w' := [(h0, .inr (5, [.int (3 : Int32), .int 0, .int (4 : Int32), .int (9 : Int32), .int 0, .int 0, .int 0, .int 0, .ref q1, .ref q2, .null, .null, .null, .null, .null])), (q1, .inl (G.2.1, 6, .inl (upd (upd (upd (upd (upd (upd (fun _ => 0) 0 (5 : Int32)) 1 (5 : Int32)) 2 (5 : Int32)) 3 (0 : Int32)) 4 (0 : Int32)) 5 (0 : Int32)))), (q2, .inl (G.2.1, 8, .inl (fun _ => 0)))]) eX5_init_57 rfl inX5 tyX5 tyX5_ok nmX5 0 rfl rfl 9 (Nat.le_of_ble_eq_true rfl) tw_64 rfl rfl rfl rfl rfl (Nat.le_of_ble_eq_true rfl) rfl ?_
  refine V_aload_n eX5_init_60 0 rfl ?_
  refine V_bipush (v := (8 : Int32)) eX5_init_61 rfl ?_
  refine V_newi (N := 8) eX5_init_63 ta_int (by decide) (by decide +kernel) (Nat.le_of_ble_eq_true rfl) (Nat.le_of_ble_eq_true rfl) (Nat.le_of_ble_eq_true rfl) (fun q3 => ?_)
  refine V_putF (w' := [(h0, .inr (5, [.int (3 : Int32), .int 0, .int (4 : Int32), .int (9 : Int32), .int 0, .int 0, .int 0, .int 0, .ref q1, .ref q2, .ref q3, .null, .null, .null, .null])), (q1, .inl (G.2.1, 6, .inl (upd (upd (upd (upd (upd (upd (fun _ => 0) 0 (5 : Int32)) 1 (5 : Int32)) 2 (5 : Int32)) 3 (0 : Int32)) 4 (0 : Int32)) 5 (0 : Int32)))), (q2, .inl (G.2.1, 8, .inl (fun _ => 0))), (q3, .inl (G.2.1, 8, .inl (fun _ => 0)))]) eX5_init_65 rfl inX5 tyX5 tyX5_ok nmX5 0 rfl rfl 10 (Nat.le_of_ble_eq_true rfl) tw_68 rfl rfl rfl rfl rfl (Nat.le_of_ble_eq_true rfl) rfl ?_
  refine V_aload_n eX5_init_68 0 rfl ?_
  refine V_bipush (v := (8 : Int32)) eX5_init_69 rfl ?_
  refine V_newi (N := 8) eX5_init_71 ta_int (by decide) (by decide +kernel) (Nat.le_of_ble_eq_true rfl) (Nat.le_of_ble_eq_true rfl) (Nat.le_of_ble_eq_true rfl) (fun q4 => ?_)
  refine V_putF (w' := [(h0, .inr (5, [.int (3 : Int32), .int 0, .int (4 : Int32), .int (9 : Int32), .int 0, .int 0, .int 0, .int 0, .ref q1, .ref q2, .ref q3, .ref q4, .null, .null, .null])), (q1, .inl (G.2.1, 6, .inl (upd (upd (upd (upd (upd (upd (fun _ => 0) 0 (5 : Int32)) 1 (5 : Int32)) 2 (5 : Int32)) 3 (0 : Int32)) 4 (0 : Int32)) 5 (0 : Int32)))), (q2, .inl (G.2.1, 8, .inl (fun _ => 0))), (q3, .inl (G.2.1, 8, .inl (fun _ => 0))), (q4, .inl (G.2.1, 8, .inl (fun _ => 0)))]) eX5_init_73 rfl inX5 tyX5 tyX5_ok nmX5 0 rfl rfl 11 (Nat.le_of_ble_eq_true rfl) tw_71 rfl rfl rfl rfl rfl (Nat.le_of_ble_eq_true rfl) rfl ?_
  refine V_aload_n eX5_init_76 0 rfl ?_
  refine V_bipush (v := (8 : Int32)) eX5_init_77 rfl ?_
  refine V_newi (N := 8) eX5_init_79 ta_int (by decide) (by decide +kernel) (Nat.le_of_ble_eq_true rfl) (Nat.le_of_ble_eq_true rfl) (Nat.le_of_ble_eq_true rfl) (fun q5 => ?_)
  refine V_putF (w' := [(h0, .inr (5, [.int (3 : Int32), .int 0, .int (4 : Int32), .int (9 : Int32), .int 0, .int 0, .int 0, .int 0, .ref q1, .ref q2, .ref q3, .ref q4, .ref q5, .null, .null])), (q1, .inl (G.2.1, 6, .inl (upd (upd (upd (upd (upd (upd (fun _ => 0) 0 (5 : Int32)) 1 (5 : Int32)) 2 (5 : Int32)) 3 (0 : Int32)) 4 (0 : Int32)) 5 (0 : Int32)))), (q2, .inl (G.2.1, 8, .inl (fun _ => 0))), (q3, .inl (G.2.1, 8, .inl (fun _ => 0))), (q4, .inl (G.2.1, 8, .inl (fun _ => 0))), (q5, .inl (G.2.1, 8, .inl (fun _ => 0)))]) eX5_init_81 rfl inX5 tyX5 tyX5_ok nmX5 0 rfl rfl 12 (Nat.le_of_ble_eq_true rfl) tw_74 rfl rfl rfl rfl rfl (Nat.le_of_ble_eq_true rfl) rfl ?_
  refine V_aload_n eX5_init_84 0 rfl ?_
  refine V_bipush (v := (8 : Int32)) eX5_init_85 rfl ?_
  refine V_newi (N := 8) eX5_init_87 ta_int (by decide) (by decide +kernel) (Nat.le_of_ble_eq_true rfl) (Nat.le_of_ble_eq_true rfl) (Nat.le_of_ble_eq_true rfl) (fun q6 => ?_)
  refine V_putF (w' := [(h0, .inr (5, [.int (3 : Int32), .int 0, .int (4 : Int32), .int (9 : Int32), .int 0, .int 0, .int 0, .int 0, .ref q1, .ref q2, .ref q3, .ref q4, .ref q5, .ref q6, .null])), (q1, .inl (G.2.1, 6, .inl (upd (upd (upd (upd (upd (upd (fun _ => 0) 0 (5 : Int32)) 1 (5 : Int32)) 2 (5 : Int32)) 3 (0 : Int32)) 4 (0 : Int32)) 5 (0 : Int32)))), (q2, .inl (G.2.1, 8, .inl (fun _ => 0))), (q3, .inl (G.2.1, 8, .inl (fun _ => 0))), (q4, .inl (G.2.1, 8, .inl (fun _ => 0))), (q5, .inl (G.2.1, 8, .inl (fun _ => 0))), (q6, .inl (G.2.1, 8, .inl (fun _ => 0)))]) eX5_init_89 rfl inX5 tyX5 tyX5_ok nmX5 0 rfl rfl 13 (Nat.le_of_ble_eq_true rfl) tw_77 rfl rfl rfl rfl rfl (Nat.le_of_ble_eq_true rfl) rfl ?_
  refine V_aload_n eX5_init_92 0 rfl ?_
  refine V_bipush (v := (8 : Int32)) eX5_init_93 rfl ?_
  refine V_newi (N := 8) eX5_init_95 ta_int (by decide) (by decide +kernel) (Nat.le_of_ble_eq_true rfl) (Nat.le_of_ble_eq_true rfl) (Nat.le_of_ble_eq_true rfl) (fun q7 => ?_)
  refine V_putF (w' := [(h0, .inr (5, [.int (3 : Int32), .int 0, .int (4 : Int32), .int (9 : Int32), .int 0, .int 0, .int 0, .int 0, .ref q1, .ref q2, .ref q3, .ref q4, .ref q5, .ref q6, .ref q7])), (q1, .inl (G.2.1, 6, .inl (upd (upd (upd (upd (upd (upd (fun _ => 0) 0 (5 : Int32)) 1 (5 : Int32)) 2 (5 : Int32)) 3 (0 : Int32)) 4 (0 : Int32)) 5 (0 : Int32)))), (q2, .inl (G.2.1, 8, .inl (fun _ => 0))), (q3, .inl (G.2.1, 8, .inl (fun _ => 0))), (q4, .inl (G.2.1, 8, .inl (fun _ => 0))), (q5, .inl (G.2.1, 8, .inl (fun _ => 0))), (q6, .inl (G.2.1, 8, .inl (fun _ => 0))), (q7, .inl (G.2.1, 8, .inl (fun _ => 0)))]) eX5_init_97 rfl inX5 tyX5 tyX5_ok nmX5 0 rfl rfl 14 (Nat.le_of_ble_eq_true rfl) tw_79 rfl rfl rfl rfl rfl (Nat.le_of_ble_eq_true rfl) rfl ?_
  exact V_vret eX5_init_100 rfl ⟨rfl, q1, q2, q3, q4, q5, q6, q7, rfl⟩
theorem hdX4_init : yX4_init.cls ≠ "java/lang/invoke/MethodHandle" ∧ yX4_init.cls ≠ "java/lang/invoke/VarHandle" ∧ (parseMethodDescriptor yX4_init.desc).map (fun d => d.parameters.length) = some 1 := by decide +kernel
theorem eX4_init_0 : Dc cX4_init 0 (.aload_n 0) 1 1 := ⟨by decide +kernel, rfl⟩
theorem eX4_init_1 : Dc cX4_init 1 (.invokespecial 3) 3 4 := ⟨by decide +kernel, rfl⟩
theorem eX4_init_4 : Dc cX4_init 4 (.aload_n 0) 1 5 := ⟨by decide +kernel, rfl⟩
theorem eX4_init_5 : Dc cX4_init 5 (.bipush 8) 2 7 := ⟨by decide +kernel, rfl⟩
theorem eX4_init_7 : Dc cX4_init 7 (.newarray .int) 2 9 := ⟨by decide +kernel, rfl⟩
theorem eX4_init_9 : Dc cX4_init 9 (.putfield 9) 3 12 := ⟨by decide +kernel, rfl⟩
theorem eX4_init_12 : Dc cX4_init 12 (.aload_n 0) 1 13 := ⟨by decide +kernel, rfl⟩
theorem eX4_init_13 : Dc cX4_init 13 (.aload_n 1) 1 14 := ⟨by decide +kernel, rfl⟩
theorem eX4_init_14 : Dc cX4_init 14 (.putfield 15) 3 17 := ⟨by decide +kernel, rfl⟩
theorem eX4_init_17 : Dc cX4_init 17 (.return_) 1 18 := ⟨by decide +kernel, rfl⟩
set_option maxRecDepth 20000 in
theorem ktX4_init (l : Launch) (G : tg_G) (h0 : Nat) (r1 : Nat) : Mt l G yX4_init cX4_init 2 none ({ frames := 1, cells := 1, slots := 8, locals := 20 } : Room) [.ref h0, .ref r1] [(h0, .inr (4, [.null, .null]))] (fun v w1 => v = none ∧ ∃ (q1 : Nat), w1 = [(h0, .inr (4, [.ref r1, .ref q1])), (q1, .inl (G.2.1, 8, .inl (fun _ => 0)))]) := by
  refine Mt_of2 (own := "TramGod$Slack") (nm := "<init>") rfl rfl rfl (Nat.le_of_ble_eq_true rfl) (lv := [(0, .ref h0), (1, .ref r1)]) rfl ?_
  refine V_aload_n eX4_init_0 0 rfl ?_
  refine V_objInit eX4_init_1 tw_118 tw_18 tc_19 (Nat.le_of_ble_eq_true rfl) (Nat.le_of_ble_eq_true rfl) ?_
  refine V_aload_n eX4_init_4 0 rfl ?_
  refine V_bipush (v := (8 : Int32)) eX4_init_5 rfl ?_
  refine V_newi (N := 8) eX4_init_7 ta_int (by decide) (by decide +kernel) (Nat.le_of_ble_eq_true rfl) (Nat.le_of_ble_eq_true rfl) (Nat.le_of_ble_eq_true rfl) (fun q1 => ?_)
  refine V_putF (w' := [(h0, .inr (4, [.null, .ref q1])), (q1, .inl (G.2.1, 8, .inl (fun _ => 0)))]) eX4_init_9 rfl inX4 tyX4 tyX4_ok nmX4 0 rfl rfl 1 (Nat.le_of_ble_eq_true rfl) tw_120 rfl rfl rfl rfl rfl (Nat.le_of_ble_eq_true rfl) rfl ?_
  refine V_aload_n eX4_init_12 0 rfl ?_
  refine V_aload_n eX4_init_13 1 rfl ?_
  refine V_putF (w' := [(h0, .inr (4, [.ref r1, .ref q1])), (q1, .inl (G.2.1, 8, .inl (fun _ => 0)))]) eX4_init_14 rfl inX4 tyX4 tyX4_ok nmX4 0 rfl rfl 0 (Nat.le_of_ble_eq_true rfl) tw_119 rfl rfl rfl rfl rfl (Nat.le_of_ble_eq_true rfl) rfl ?_
  exact V_vret eX4_init_17 rfl ⟨rfl, q1, rfl⟩
theorem hdX2_init : yX2_init.cls ≠ "java/lang/invoke/MethodHandle" ∧ yX2_init.cls ≠ "java/lang/invoke/VarHandle" ∧ (parseMethodDescriptor yX2_init.desc).map (fun d => d.parameters.length) = some 2 := by decide +kernel
theorem eX2_init_0 : Dc cX2_init 0 (.aload_n 0) 1 1 := ⟨by decide +kernel, rfl⟩
theorem eX2_init_1 : Dc cX2_init 1 (.invokespecial 3) 3 4 := ⟨by decide +kernel, rfl⟩
theorem eX2_init_4 : Dc cX2_init 4 (.aload_n 0) 1 5 := ⟨by decide +kernel, rfl⟩
theorem eX2_init_5 : Dc cX2_init 5 (.bipush 66) 2 7 := ⟨by decide +kernel, rfl⟩
theorem eX2_init_7 : Dc cX2_init 7 (.newarray .int) 2 9 := ⟨by decide +kernel, rfl⟩
theorem eX2_init_9 : Dc cX2_init 9 (.putfield 9) 3 12 := ⟨by decide +kernel, rfl⟩
theorem eX2_init_12 : Dc cX2_init 12 (.aload_n 0) 1 13 := ⟨by decide +kernel, rfl⟩
theorem eX2_init_13 : Dc cX2_init 13 (.bipush 6) 2 15 := ⟨by decide +kernel, rfl⟩
theorem eX2_init_15 : Dc cX2_init 15 (.newarray .int) 2 17 := ⟨by decide +kernel, rfl⟩
theorem eX2_init_17 : Dc cX2_init 17 (.putfield 15) 3 20 := ⟨by decide +kernel, rfl⟩
theorem eX2_init_20 : Dc cX2_init 20 (.aload_n 0) 1 21 := ⟨by decide +kernel, rfl⟩
theorem eX2_init_21 : Dc cX2_init 21 (.bipush 77) 2 23 := ⟨by decide +kernel, rfl⟩
theorem eX2_init_23 : Dc cX2_init 23 (.newarray .int) 2 25 := ⟨by decide +kernel, rfl⟩
theorem eX2_init_25 : Dc cX2_init 25 (.putfield 18) 3 28 := ⟨by decide +kernel, rfl⟩
theorem eX2_init_28 : Dc cX2_init 28 (.aload_n 0) 1 29 := ⟨by decide +kernel, rfl⟩
theorem eX2_init_29 : Dc cX2_init 29 (.bipush 66) 2 31 := ⟨by decide +kernel, rfl⟩
theorem eX2_init_31 : Dc cX2_init 31 (.newarray .int) 2 33 := ⟨by decide +kernel, rfl⟩
theorem eX2_init_33 : Dc cX2_init 33 (.putfield 21) 3 36 := ⟨by decide +kernel, rfl⟩
theorem eX2_init_36 : Dc cX2_init 36 (.aload_n 0) 1 37 := ⟨by decide +kernel, rfl⟩
theorem eX2_init_37 : Dc cX2_init 37 (.aload_n 1) 1 38 := ⟨by decide +kernel, rfl⟩
theorem eX2_init_38 : Dc cX2_init 38 (.putfield 24) 3 41 := ⟨by decide +kernel, rfl⟩
theorem eX2_init_41 : Dc cX2_init 41 (.aload_n 0) 1 42 := ⟨by decide +kernel, rfl⟩
theorem eX2_init_42 : Dc cX2_init 42 (.aload_n 2) 1 43 := ⟨by decide +kernel, rfl⟩
theorem eX2_init_43 : Dc cX2_init 43 (.putfield 28) 3 46 := ⟨by decide +kernel, rfl⟩
theorem eX2_init_46 : Dc cX2_init 46 (.return_) 1 47 := ⟨by decide +kernel, rfl⟩
set_option maxRecDepth 20000 in
theorem ktX2_init (l : Launch) (G : tg_G) (h0 : Nat) (r1 : Nat) (r2 : Nat) : Mt l G yX2_init cX2_init 3 none ({ frames := 1, cells := 4, slots := 215, locals := 20 } : Room) [.ref h0, .ref r1, .ref r2] [(h0, .inr (2, [.null, .null, .null, .null, .null, .null]))] (fun v w1 => v = none ∧ ∃ (q1 q2 q3 q4 : Nat), w1 = [(h0, .inr (2, [.ref r1, .ref r2, .ref q1, .ref q2, .ref q3, .ref q4])), (q1, .inl (G.2.1, 66, .inl (fun _ => 0))), (q2, .inl (G.2.1, 6, .inl (fun _ => 0))), (q3, .inl (G.2.1, 77, .inl (fun _ => 0))), (q4, .inl (G.2.1, 66, .inl (fun _ => 0)))]) := by
  refine Mt_of2 (own := "TramGod$Planner") (nm := "<init>") rfl rfl rfl (Nat.le_of_ble_eq_true rfl) (lv := [(0, .ref h0), (1, .ref r1), (2, .ref r2)]) rfl ?_
  refine V_aload_n eX2_init_0 0 rfl ?_
  refine V_objInit eX2_init_1 tw_132 tw_18 tc_19 (Nat.le_of_ble_eq_true rfl) (Nat.le_of_ble_eq_true rfl) ?_
  refine V_aload_n eX2_init_4 0 rfl ?_
  refine V_bipush (v := (66 : Int32)) eX2_init_5 rfl ?_
  refine V_newi (N := 66) eX2_init_7 ta_int (by decide) (by decide +kernel) (Nat.le_of_ble_eq_true rfl) (Nat.le_of_ble_eq_true rfl) (Nat.le_of_ble_eq_true rfl) (fun q1 => ?_)
  refine V_putF (w' := [(h0, .inr (2, [.null, .null, .ref q1, .null, .null, .null])), (q1, .inl (G.2.1, 66, .inl (fun _ => 0)))]) eX2_init_9 rfl inX2 tyX2 tyX2_ok nmX2 0 rfl rfl 2 (Nat.le_of_ble_eq_true rfl) tw_135 rfl rfl rfl rfl rfl (Nat.le_of_ble_eq_true rfl) rfl ?_
  refine V_aload_n eX2_init_12 0 rfl ?_
  refine V_bipush (v := (6 : Int32)) eX2_init_13 rfl ?_
  refine V_newi (N := 6) eX2_init_15 ta_int (by decide) (by decide +kernel) (Nat.le_of_ble_eq_true rfl) (Nat.le_of_ble_eq_true rfl) (Nat.le_of_ble_eq_true rfl) (fun q2 => ?_)
  refine V_putF (w' := [(h0, .inr (2, [.null, .null, .ref q1, .ref q2, .null, .null])), (q1, .inl (G.2.1, 66, .inl (fun _ => 0))), (q2, .inl (G.2.1, 6, .inl (fun _ => 0)))]) eX2_init_17 rfl inX2 tyX2 tyX2_ok nmX2 0 rfl rfl 3 (Nat.le_of_ble_eq_true rfl) tw_136 rfl rfl rfl rfl rfl (Nat.le_of_ble_eq_true rfl) rfl ?_
  refine V_aload_n eX2_init_20 0 rfl ?_
  refine V_bipush (v := (77 : Int32)) eX2_init_21 rfl ?_
  refine V_newi (N := 77) eX2_init_23 ta_int (by decide) (by decide +kernel) (Nat.le_of_ble_eq_true rfl) (Nat.le_of_ble_eq_true rfl) (Nat.le_of_ble_eq_true rfl) (fun q3 => ?_)
  refine V_putF (w' := [(h0, .inr (2, [.null, .null, .ref q1, .ref q2, .ref q3, .null])), (q1, .inl (G.2.1, 66, .inl (fun _ => 0))), (q2, .inl (G.2.1, 6, .inl (fun _ => 0))), (q3, .inl (G.2.1, 77, .inl (fun _ => 0)))]) eX2_init_25 rfl inX2 tyX2 tyX2_ok nmX2 0 rfl rfl 4 (Nat.le_of_ble_eq_true rfl) tw_138 rfl rfl rfl rfl rfl (Nat.le_of_ble_eq_true rfl) rfl ?_
  refine V_aload_n eX2_init_28 0 rfl ?_
  refine V_bipush (v := (66 : Int32)) eX2_init_29 rfl ?_
  refine V_newi (N := 66) eX2_init_31 ta_int (by decide) (by decide +kernel) (Nat.le_of_ble_eq_true rfl) (Nat.le_of_ble_eq_true rfl) (Nat.le_of_ble_eq_true rfl) (fun q4 => ?_)
  refine V_putF (w' := [(h0, .inr (2, [.null, .null, .ref q1, .ref q2, .ref q3, .ref q4])), (q1, .inl (G.2.1, 66, .inl (fun _ => 0))), (q2, .inl (G.2.1, 6, .inl (fun _ => 0))), (q3, .inl (G.2.1, 77, .inl (fun _ => 0))), (q4, .inl (G.2.1, 66, .inl (fun _ => 0)))]) eX2_init_33 rfl inX2 tyX2 tyX2_ok nmX2 0 rfl rfl 5 (Nat.le_of_ble_eq_true rfl) tw_139 rfl rfl rfl rfl rfl (Nat.le_of_ble_eq_true rfl) rfl ?_
  refine V_aload_n eX2_init_36 0 rfl ?_
  refine V_aload_n eX2_init_37 1 rfl ?_
  refine V_putF (w' := [(h0, .inr (2, [.ref r1, .null, .ref q1, .ref q2, .ref q3, .ref q4])), (q1, .inl (G.2.1, 66, .inl (fun _ => 0))), (q2, .inl (G.2.1, 6, .inl (fun _ => 0))), (q3, .inl (G.2.1, 77, .inl (fun _ => 0))), (q4, .inl (G.2.1, 66, .inl (fun _ => 0)))]) eX2_init_38 rfl inX2 tyX2 tyX2_ok nmX2 0 rfl rfl 0 (Nat.le_of_ble_eq_true rfl) tw_133 rfl rfl rfl rfl rfl (Nat.le_of_ble_eq_true rfl) rfl ?_
  refine V_aload_n eX2_init_41 0 rfl ?_
  refine V_aload_n eX2_init_42 2 rfl ?_
  refine V_putF (w' := [(h0, .inr (2, [.ref r1, .ref r2, .ref q1, .ref q2, .ref q3, .ref q4])), (q1, .inl (G.2.1, 66, .inl (fun _ => 0))), (q2, .inl (G.2.1, 6, .inl (fun _ => 0))), (q3, .inl (G.2.1, 77, .inl (fun _ => 0))), (q4, .inl (G.2.1, 66, .inl (fun _ => 0)))]) eX2_init_43 rfl inX2 tyX2 tyX2_ok nmX2 0 rfl rfl 1 (Nat.le_of_ble_eq_true rfl) tw_134 rfl rfl rfl rfl rfl (Nat.le_of_ble_eq_true rfl) rfl ?_
  exact V_vret eX2_init_46 rfl ⟨rfl, q1, q2, q3, q4, rfl⟩
theorem hdX3_init : yX3_init.cls ≠ "java/lang/invoke/MethodHandle" ∧ yX3_init.cls ≠ "java/lang/invoke/VarHandle" ∧ (parseMethodDescriptor yX3_init.desc).map (fun d => d.parameters.length) = some 2 := by decide +kernel
theorem eX3_init_0 : Dc cX3_init 0 (.aload_n 0) 1 1 := ⟨by decide +kernel, rfl⟩
theorem eX3_init_1 : Dc cX3_init 1 (.invokespecial 3) 3 4 := ⟨by decide +kernel, rfl⟩
theorem eX3_init_4 : Dc cX3_init 4 (.aload_n 0) 1 5 := ⟨by decide +kernel, rfl⟩
theorem eX3_init_5 : Dc cX3_init 5 (.bipush 70) 2 7 := ⟨by decide +kernel, rfl⟩
theorem eX3_init_7 : Dc cX3_init 7 (.newarray .int) 2 9 := ⟨by decide +kernel, rfl⟩
theorem eX3_init_9 : Dc cX3_init 9 (.putfield 11) 3 12 := ⟨by decide +kernel, rfl⟩
theorem eX3_init_12 : Dc cX3_init 12 (.aload_n 0) 1 13 := ⟨by decide +kernel, rfl⟩
theorem eX3_init_13 : Dc cX3_init 13 (.sipush 328) 3 16 := ⟨by decide +kernel, rfl⟩
theorem eX3_init_16 : Dc cX3_init 16 (.newarray .int) 2 18 := ⟨by decide +kernel, rfl⟩
theorem eX3_init_18 : Dc cX3_init 18 (.putfield 15) 3 21 := ⟨by decide +kernel, rfl⟩
theorem eX3_init_21 : Dc cX3_init 21 (.aload_n 0) 1 22 := ⟨by decide +kernel, rfl⟩
theorem eX3_init_22 : Dc cX3_init 22 (.aload_n 1) 1 23 := ⟨by decide +kernel, rfl⟩
theorem eX3_init_23 : Dc cX3_init 23 (.putfield 18) 3 26 := ⟨by decide +kernel, rfl⟩
theorem eX3_init_26 : Dc cX3_init 26 (.aload_n 0) 1 27 := ⟨by decide +kernel, rfl⟩
theorem eX3_init_27 : Dc cX3_init 27 (.aload_n 2) 1 28 := ⟨by decide +kernel, rfl⟩
theorem eX3_init_28 : Dc cX3_init 28 (.putfield 22) 3 31 := ⟨by decide +kernel, rfl⟩
theorem eX3_init_31 : Dc cX3_init 31 (.return_) 1 32 := ⟨by decide +kernel, rfl⟩
set_option maxRecDepth 20000 in
theorem ktX3_init (l : Launch) (G : tg_G) (h0 : Nat) (r1 : Nat) (r2 : Nat) : Mt l G yX3_init cX3_init 3 none ({ frames := 1, cells := 2, slots := 398, locals := 20 } : Room) [.ref h0, .ref r1, .ref r2] [(h0, .inr (3, [.null, .null, .null, .null]))] (fun v w1 => v = none ∧ ∃ (q1 q2 : Nat), w1 = [(h0, .inr (3, [.ref r1, .ref r2, .ref q1, .ref q2])), (q1, .inl (G.2.1, 70, .inl (fun _ => 0))), (q2, .inl (G.2.1, 328, .inl (fun _ => 0)))]) := by
  refine Mt_of2 (own := "TramGod$Purse") (nm := "<init>") rfl rfl rfl (Nat.le_of_ble_eq_true rfl) (lv := [(0, .ref h0), (1, .ref r1), (2, .ref r2)]) rfl ?_
  refine V_aload_n eX3_init_0 0 rfl ?_
  refine V_objInit eX3_init_1 tw_158 tw_18 tc_19 (Nat.le_of_ble_eq_true rfl) (Nat.le_of_ble_eq_true rfl) ?_
  refine V_aload_n eX3_init_4 0 rfl ?_
  refine V_bipush (v := (70 : Int32)) eX3_init_5 rfl ?_
  refine V_newi (N := 70) eX3_init_7 ta_int (by decide) (by decide +kernel) (Nat.le_of_ble_eq_true rfl) (Nat.le_of_ble_eq_true rfl) (Nat.le_of_ble_eq_true rfl) (fun q1 => ?_)
  refine V_putF (w' := [(h0, .inr (3, [.null, .null, .ref q1, .null])), (q1, .inl (G.2.1, 70, .inl (fun _ => 0)))]) eX3_init_9 rfl inX3 tyX3 tyX3_ok nmX3 0 rfl rfl 2 (Nat.le_of_ble_eq_true rfl) tw_161 rfl rfl rfl rfl rfl (Nat.le_of_ble_eq_true rfl) rfl ?_
  refine V_aload_n eX3_init_12 0 rfl ?_
  refine V_sipush (v := (328 : Int32)) eX3_init_13 rfl ?_
  refine V_newi (N := 328) eX3_init_16 ta_int (by decide) (by decide +kernel) (Nat.le_of_ble_eq_true rfl) (Nat.le_of_ble_eq_true rfl) (Nat.le_of_ble_eq_true rfl) (fun q2 => ?_)
  refine V_putF (w' := [(h0, .inr (3, [.null, .null, .ref q1, .ref q2])), (q1, .inl (G.2.1, 70, .inl (fun _ => 0))), (q2, .inl (G.2.1, 328, .inl (fun _ => 0)))]) eX3_init_18 rfl inX3 tyX3 tyX3_ok nmX3 0 rfl rfl 3 (Nat.le_of_ble_eq_true rfl) tw_162 rfl rfl rfl rfl rfl (Nat.le_of_ble_eq_true rfl) rfl ?_
  refine V_aload_n eX3_init_21 0 rfl ?_
  refine V_aload_n eX3_init_22 1 rfl ?_
  refine V_putF (w' := [(h0, .inr (3, [.ref r1, .null, .ref q1, .ref q2])), (q1, .inl (G.2.1, 70, .inl (fun _ => 0))), (q2, .inl (G.2.1, 328, .inl (fun _ => 0)))]) eX3_init_23 rfl inX3 tyX3 tyX3_ok nmX3 0 rfl rfl 0 (Nat.le_of_ble_eq_true rfl) tw_159 rfl rfl rfl rfl rfl (Nat.le_of_ble_eq_true rfl) rfl ?_
  refine V_aload_n eX3_init_26 0 rfl ?_
  refine V_aload_n eX3_init_27 2 rfl ?_
  refine V_putF (w' := [(h0, .inr (3, [.ref r1, .ref r2, .ref q1, .ref q2])), (q1, .inl (G.2.1, 70, .inl (fun _ => 0))), (q2, .inl (G.2.1, 328, .inl (fun _ => 0)))]) eX3_init_28 rfl inX3 tyX3 tyX3_ok nmX3 0 rfl rfl 1 (Nat.le_of_ble_eq_true rfl) tw_160 rfl rfl rfl rfl rfl (Nat.le_of_ble_eq_true rfl) rfl ?_
  exact V_vret eX3_init_31 rfl ⟨rfl, q1, q2, rfl⟩
theorem hdX0_init : yX0_init.cls ≠ "java/lang/invoke/MethodHandle" ∧ yX0_init.cls ≠ "java/lang/invoke/VarHandle" ∧ (parseMethodDescriptor yX0_init.desc).map (fun d => d.parameters.length) = some 2 := by decide +kernel
theorem eX0_init_0 : Dc cX0_init 0 (.aload_n 0) 1 1 := ⟨by decide +kernel, rfl⟩
theorem eX0_init_1 : Dc cX0_init 1 (.invokespecial 3) 3 4 := ⟨by decide +kernel, rfl⟩
theorem eX0_init_4 : Dc cX0_init 4 (.aload_n 0) 1 5 := ⟨by decide +kernel, rfl⟩
theorem eX0_init_5 : Dc cX0_init 5 (.sipush 462) 3 8 := ⟨by decide +kernel, rfl⟩
theorem eX0_init_8 : Dc cX0_init 8 (.newarray .int) 2 10 := ⟨by decide +kernel, rfl⟩
theorem eX0_init_10 : Dc cX0_init 10 (.putfield 9) 3 13 := ⟨by decide +kernel, rfl⟩
theorem eX0_init_13 : Dc cX0_init 13 (.aload_n 0) 1 14 := ⟨by decide +kernel, rfl⟩
theorem eX0_init_14 : Dc cX0_init 14 (.sipush 462) 3 17 := ⟨by decide +kernel, rfl⟩
theorem eX0_init_17 : Dc cX0_init 17 (.newarray .int) 2 19 := ⟨by decide +kernel, rfl⟩
theorem eX0_init_19 : Dc cX0_init 19 (.putfield 15) 3 22 := ⟨by decide +kernel, rfl⟩
theorem eX0_init_22 : Dc cX0_init 22 (.aload_n 0) 1 23 := ⟨by decide +kernel, rfl⟩
theorem eX0_init_23 : Dc cX0_init 23 (.bipush 6) 2 25 := ⟨by decide +kernel, rfl⟩
theorem eX0_init_25 : Dc cX0_init 25 (.newarray .int) 2 27 := ⟨by decide +kernel, rfl⟩
theorem eX0_init_27 : Dc cX0_init 27 (.putfield 18) 3 30 := ⟨by decide +kernel, rfl⟩
theorem eX0_init_30 : Dc cX0_init 30 (.aload_n 0) 1 31 := ⟨by decide +kernel, rfl⟩
theorem eX0_init_31 : Dc cX0_init 31 (.bipush 6) 2 33 := ⟨by decide +kernel, rfl⟩
theorem eX0_init_33 : Dc cX0_init 33 (.newarray .int) 2 35 := ⟨by decide +kernel, rfl⟩
theorem eX0_init_35 : Dc cX0_init 35 (.putfield 21) 3 38 := ⟨by decide +kernel, rfl⟩
theorem eX0_init_38 : Dc cX0_init 38 (.aload_n 0) 1 39 := ⟨by decide +kernel, rfl⟩
theorem eX0_init_39 : Dc cX0_init 39 (.aload_n 1) 1 40 := ⟨by decide +kernel, rfl⟩
theorem eX0_init_40 : Dc cX0_init 40 (.putfield 24) 3 43 := ⟨by decide +kernel, rfl⟩
theorem eX0_init_43 : Dc cX0_init 43 (.aload_n 0) 1 44 := ⟨by decide +kernel, rfl⟩
theorem eX0_init_44 : Dc cX0_init 44 (.aload_n 2) 1 45 := ⟨by decide +kernel, rfl⟩
theorem eX0_init_45 : Dc cX0_init 45 (.putfield 28) 3 48 := ⟨by decide +kernel, rfl⟩
theorem eX0_init_48 : Dc cX0_init 48 (.return_) 1 49 := ⟨by decide +kernel, rfl⟩
set_option maxRecDepth 20000 in
theorem ktX0_init (l : Launch) (G : tg_G) (h0 : Nat) (r1 : Nat) (r2 : Nat) : Mt l G yX0_init cX0_init 3 none ({ frames := 1, cells := 4, slots := 936, locals := 20 } : Room) [.ref h0, .ref r1, .ref r2] [(h0, .inr (0, [.null, .null, .null, .null, .null, .null, .int 0, .int 0, .int 0]))] (fun v w1 => v = none ∧ ∃ (q1 q2 q3 q4 : Nat), w1 = [(h0, .inr (0, [.ref r1, .ref r2, .ref q1, .ref q2, .ref q3, .ref q4, .int 0, .int 0, .int 0])), (q1, .inl (G.2.1, 462, .inl (fun _ => 0))), (q2, .inl (G.2.1, 462, .inl (fun _ => 0))), (q3, .inl (G.2.1, 6, .inl (fun _ => 0))), (q4, .inl (G.2.1, 6, .inl (fun _ => 0)))]) := by
  refine Mt_of2 (own := "TramGod$Duel") (nm := "<init>") rfl rfl rfl (Nat.le_of_ble_eq_true rfl) (lv := [(0, .ref h0), (1, .ref r1), (2, .ref r2)]) rfl ?_
  refine V_aload_n eX0_init_0 0 rfl ?_
  refine V_objInit eX0_init_1 tw_177 tw_18 tc_19 (Nat.le_of_ble_eq_true rfl) (Nat.le_of_ble_eq_true rfl) ?_
  refine V_aload_n eX0_init_4 0 rfl ?_
  refine V_sipush (v := (462 : Int32)) eX0_init_5 rfl ?_
  refine V_newi (N := 462) eX0_init_8 ta_int (by decide) (by decide +kernel) (Nat.le_of_ble_eq_true rfl) (Nat.le_of_ble_eq_true rfl) (Nat.le_of_ble_eq_true rfl) (fun q1 => ?_)
  refine V_putF (w' := [(h0, .inr (0, [.null, .null, .ref q1, .null, .null, .null, .int 0, .int 0, .int 0])), (q1, .inl (G.2.1, 462, .inl (fun _ => 0)))]) eX0_init_10 rfl inX0 tyX0 tyX0_ok nmX0 0 rfl rfl 2 (Nat.le_of_ble_eq_true rfl) tw_180 rfl rfl rfl rfl rfl (Nat.le_of_ble_eq_true rfl) rfl ?_
  refine V_aload_n eX0_init_13 0 rfl ?_
  refine V_sipush (v := (462 : Int32)) eX0_init_14 rfl ?_
  refine V_newi (N := 462) eX0_init_17 ta_int (by decide) (by decide +kernel) (Nat.le_of_ble_eq_true rfl) (Nat.le_of_ble_eq_true rfl) (Nat.le_of_ble_eq_true rfl) (fun q2 => ?_)
  refine V_putF (w' := [(h0, .inr (0, [.null, .null, .ref q1, .ref q2, .null, .null, .int 0, .int 0, .int 0])), (q1, .inl (G.2.1, 462, .inl (fun _ => 0))), (q2, .inl (G.2.1, 462, .inl (fun _ => 0)))]) eX0_init_19 rfl inX0 tyX0 tyX0_ok nmX0 0 rfl rfl 3 (Nat.le_of_ble_eq_true rfl) tw_181 rfl rfl rfl rfl rfl (Nat.le_of_ble_eq_true rfl) rfl ?_
  refine V_aload_n eX0_init_22 0 rfl ?_
  refine V_bipush (v := (6 : Int32)) eX0_init_23 rfl ?_
  refine V_newi (N := 6) eX0_init_25 ta_int (by decide) (by decide +kernel) (Nat.le_of_ble_eq_true rfl) (Nat.le_of_ble_eq_true rfl) (Nat.le_of_ble_eq_true rfl) (fun q3 => ?_)
  refine V_putF (w' := [(h0, .inr (0, [.null, .null, .ref q1, .ref q2, .ref q3, .null, .int 0, .int 0, .int 0])), (q1, .inl (G.2.1, 462, .inl (fun _ => 0))), (q2, .inl (G.2.1, 462, .inl (fun _ => 0))), (q3, .inl (G.2.1, 6, .inl (fun _ => 0)))]) eX0_init_27 rfl inX0 tyX0 tyX0_ok nmX0 0 rfl rfl 4 (Nat.le_of_ble_eq_true rfl) tw_182 rfl rfl rfl rfl rfl (Nat.le_of_ble_eq_true rfl) rfl ?_
  refine V_aload_n eX0_init_30 0 rfl ?_
  refine V_bipush (v := (6 : Int32)) eX0_init_31 rfl ?_
  refine V_newi (N := 6) eX0_init_33 ta_int (by decide) (by decide +kernel) (Nat.le_of_ble_eq_true rfl) (Nat.le_of_ble_eq_true rfl) (Nat.le_of_ble_eq_true rfl) (fun q4 => ?_)
  refine V_putF (w' := [(h0, .inr (0, [.null, .null, .ref q1, .ref q2, .ref q3, .ref q4, .int 0, .int 0, .int 0])), (q1, .inl (G.2.1, 462, .inl (fun _ => 0))), (q2, .inl (G.2.1, 462, .inl (fun _ => 0))), (q3, .inl (G.2.1, 6, .inl (fun _ => 0))), (q4, .inl (G.2.1, 6, .inl (fun _ => 0)))]) eX0_init_35 rfl inX0 tyX0 tyX0_ok nmX0 0 rfl rfl 5 (Nat.le_of_ble_eq_true rfl) tw_183 rfl rfl rfl rfl rfl (Nat.le_of_ble_eq_true rfl) rfl ?_
  refine V_aload_n eX0_init_38 0 rfl ?_
  refine V_aload_n eX0_init_39 1 rfl ?_
  refine V_putF (w' := [(h0, .inr (0, [.ref r1, .null, .ref q1, .ref q2, .ref q3, .ref q4, .int 0, .int 0, .int 0])), (q1, .inl (G.2.1, 462, .inl (fun _ => 0))), (q2, .inl (G.2.1, 462, .inl (fun _ => 0))), (q3, .inl (G.2.1, 6, .inl (fun _ => 0))), (q4, .inl (G.2.1, 6, .inl (fun _ => 0)))]) eX0_init_40 rfl inX0 tyX0 tyX0_ok nmX0 0 rfl rfl 0 (Nat.le_of_ble_eq_true rfl) tw_178 rfl rfl rfl rfl rfl (Nat.le_of_ble_eq_true rfl) rfl ?_
  refine V_aload_n eX0_init_43 0 rfl ?_
  refine V_aload_n eX0_init_44 2 rfl ?_
  refine V_putF (w' := [(h0, .inr (0, [.ref r1, .ref r2, .ref q1, .ref q2, .ref q3, .ref q4, .int 0, .int 0, .int 0])), (q1, .inl (G.2.1, 462, .inl (fun _ => 0))), (q2, .inl (G.2.1, 462, .inl (fun _ => 0))), (q3, .inl (G.2.1, 6, .inl (fun _ => 0))), (q4, .inl (G.2.1, 6, .inl (fun _ => 0)))]) eX0_init_45 rfl inX0 tyX0 tyX0_ok nmX0 0 rfl rfl 1 (Nat.le_of_ble_eq_true rfl) tw_179 rfl rfl rfl rfl rfl (Nat.le_of_ble_eq_true rfl) rfl ?_
  exact V_vret eX0_init_48 rfl ⟨rfl, q1, q2, q3, q4, rfl⟩
theorem hdX6_init : yX6_init.cls ≠ "java/lang/invoke/MethodHandle" ∧ yX6_init.cls ≠ "java/lang/invoke/VarHandle" ∧ (parseMethodDescriptor yX6_init.desc).map (fun d => d.parameters.length) = some 0 := by decide +kernel
theorem eX6_init_0 : Dc cX6_init 0 (.aload_n 0) 1 1 := ⟨by decide +kernel, rfl⟩
theorem eX6_init_1 : Dc cX6_init 1 (.invokespecial 1) 3 4 := ⟨by decide +kernel, rfl⟩
theorem eX6_init_4 : Dc cX6_init 4 (.aload_n 0) 1 5 := ⟨by decide +kernel, rfl⟩
theorem eX6_init_5 : Dc cX6_init 5 (.new 7) 3 8 := ⟨by decide +kernel, rfl⟩
theorem eX6_init_8 : Dc cX6_init 8 (.dup) 1 9 := ⟨by decide +kernel, rfl⟩
theorem eX6_init_9 : Dc cX6_init 9 (.invokespecial 9) 3 12 := ⟨by decide +kernel, rfl⟩
theorem eX6_init_12 : Dc cX6_init 12 (.putfield 10) 3 15 := ⟨by decide +kernel, rfl⟩
theorem eX6_init_15 : Dc cX6_init 15 (.aload_n 0) 1 16 := ⟨by decide +kernel, rfl⟩
theorem eX6_init_16 : Dc cX6_init 16 (.new 16) 3 19 := ⟨by decide +kernel, rfl⟩
theorem eX6_init_19 : Dc cX6_init 19 (.dup) 1 20 := ⟨by decide +kernel, rfl⟩
theorem eX6_init_20 : Dc cX6_init 20 (.invokespecial 18) 3 23 := ⟨by decide +kernel, rfl⟩
theorem eX6_init_23 : Dc cX6_init 23 (.putfield 19) 3 26 := ⟨by decide +kernel, rfl⟩
theorem eX6_init_26 : Dc cX6_init 26 (.aload_n 0) 1 27 := ⟨by decide +kernel, rfl⟩
theorem eX6_init_27 : Dc cX6_init 27 (.iconst 2) 1 28 := ⟨by decide +kernel, rfl⟩
theorem eX6_init_28 : Dc cX6_init 28 (.anewarray 16) 3 31 := ⟨by decide +kernel, rfl⟩
theorem eX6_init_31 : Dc cX6_init 31 (.putfield 23) 3 34 := ⟨by decide +kernel, rfl⟩
theorem eX6_init_34 : Dc cX6_init 34 (.aload_n 0) 1 35 := ⟨by decide +kernel, rfl⟩
theorem eX6_init_35 : Dc cX6_init 35 (.new 27) 3 38 := ⟨by decide +kernel, rfl⟩
theorem eX6_init_38 : Dc cX6_init 38 (.dup) 1 39 := ⟨by decide +kernel, rfl⟩
theorem eX6_init_39 : Dc cX6_init 39 (.aload_n 0) 1 40 := ⟨by decide +kernel, rfl⟩
theorem eX6_init_40 : Dc cX6_init 40 (.getfield 19) 3 43 := ⟨by decide +kernel, rfl⟩
theorem eX6_init_43 : Dc cX6_init 43 (.invokespecial 29) 3 46 := ⟨by decide +kernel, rfl⟩
theorem eX6_init_46 : Dc cX6_init 46 (.putfield 32) 3 49 := ⟨by decide +kernel, rfl⟩
theorem eX6_init_49 : Dc cX6_init 49 (.aload_n 0) 1 50 := ⟨by decide +kernel, rfl⟩
theorem eX6_init_50 : Dc cX6_init 50 (.new 36) 3 53 := ⟨by decide +kernel, rfl⟩
theorem eX6_init_53 : Dc cX6_init 53 (.dup) 1 54 := ⟨by decide +kernel, rfl⟩
theorem eX6_init_54 : Dc cX6_init 54 (.aload_n 0) 1 55 := ⟨by decide +kernel, rfl⟩
theorem eX6_init_55 : Dc cX6_init 55 (.getfield 19) 3 58 := ⟨by decide +kernel, rfl⟩
theorem eX6_init_58 : Dc cX6_init 58 (.aload_n 0) 1 59 := ⟨by decide +kernel, rfl⟩
theorem eX6_init_59 : Dc cX6_init 59 (.getfield 32) 3 62 := ⟨by decide +kernel, rfl⟩
theorem eX6_init_62 : Dc cX6_init 62 (.invokespecial 38) 3 65 := ⟨by decide +kernel, rfl⟩
theorem eX6_init_65 : Dc cX6_init 65 (.putfield 41) 3 68 := ⟨by decide +kernel, rfl⟩
theorem eX6_init_68 : Dc cX6_init 68 (.aload_n 0) 1 69 := ⟨by decide +kernel, rfl⟩
theorem eX6_init_69 : Dc cX6_init 69 (.new 45) 3 72 := ⟨by decide +kernel, rfl⟩
theorem eX6_init_72 : Dc cX6_init 72 (.dup) 1 73 := ⟨by decide +kernel, rfl⟩
theorem eX6_init_73 : Dc cX6_init 73 (.aload_n 0) 1 74 := ⟨by decide +kernel, rfl⟩
theorem eX6_init_74 : Dc cX6_init 74 (.getfield 19) 3 77 := ⟨by decide +kernel, rfl⟩
theorem eX6_init_77 : Dc cX6_init 77 (.aload_n 0) 1 78 := ⟨by decide +kernel, rfl⟩
theorem eX6_init_78 : Dc cX6_init 78 (.getfield 41) 3 81 := ⟨by decide +kernel, rfl⟩
theorem eX6_init_81 : Dc cX6_init 81 (.invokespecial 47) 3 84 := ⟨by decide +kernel, rfl⟩
theorem eX6_init_84 : Dc cX6_init 84 (.putfield 50) 3 87 := ⟨by decide +kernel, rfl⟩
theorem eX6_init_87 : Dc cX6_init 87 (.aload_n 0) 1 88 := ⟨by decide +kernel, rfl⟩
theorem eX6_init_88 : Dc cX6_init 88 (.new 54) 3 91 := ⟨by decide +kernel, rfl⟩
theorem eX6_init_91 : Dc cX6_init 91 (.dup) 1 92 := ⟨by decide +kernel, rfl⟩
theorem eX6_init_92 : Dc cX6_init 92 (.aload_n 0) 1 93 := ⟨by decide +kernel, rfl⟩
theorem eX6_init_93 : Dc cX6_init 93 (.getfield 19) 3 96 := ⟨by decide +kernel, rfl⟩
theorem eX6_init_96 : Dc cX6_init 96 (.aload_n 0) 1 97 := ⟨by decide +kernel, rfl⟩
theorem eX6_init_97 : Dc cX6_init 97 (.getfield 32) 3 100 := ⟨by decide +kernel, rfl⟩
theorem eX6_init_100 : Dc cX6_init 100 (.invokespecial 56) 3 103 := ⟨by decide +kernel, rfl⟩
theorem eX6_init_103 : Dc cX6_init 103 (.putfield 57) 3 106 := ⟨by decide +kernel, rfl⟩
theorem eX6_init_106 : Dc cX6_init 106 (.aload_n 0) 1 107 := ⟨by decide +kernel, rfl⟩
theorem eX6_init_107 : Dc cX6_init 107 (.bipush 6) 2 109 := ⟨by decide +kernel, rfl⟩
theorem eX6_init_109 : Dc cX6_init 109 (.newarray .int) 2 111 := ⟨by decide +kernel, rfl⟩
theorem eX6_init_111 : Dc cX6_init 111 (.putfield 61) 3 114 := ⟨by decide +kernel, rfl⟩
theorem eX6_init_114 : Dc cX6_init 114 (.aload_n 0) 1 115 := ⟨by decide +kernel, rfl⟩
theorem eX6_init_115 : Dc cX6_init 115 (.bipush 6) 2 117 := ⟨by decide +kernel, rfl⟩
theorem eX6_init_117 : Dc cX6_init 117 (.newarray .int) 2 119 := ⟨by decide +kernel, rfl⟩
theorem eX6_init_119 : Dc cX6_init 119 (.putfield 65) 3 122 := ⟨by decide +kernel, rfl⟩
theorem eX6_init_122 : Dc cX6_init 122 (.return_) 1 123 := ⟨by decide +kernel, rfl⟩
set_option maxRecDepth 20000 in
theorem ktX6_init (l : Launch) (G : tg_G) (h0 : Nat)  : Mt l G yX6_init cX6_init 1 none ({ frames := 2, cells := 28, slots := 1683, locals := 42 } : Room) [.ref h0] [(h0, .inr (6, [.null, .null, .null, .null, .null, .null, .null, .null, .null]))] (fun v w1 => v = none ∧ ∃ (q1 q1_1 q2 q1_2 q2_2 q3_2 q4_2 q5_2 q6_2 q7_2 q3 q4 q1_4 q5 q1_5 q2_5 q3_5 q4_5 q6 q1_6 q2_6 q7 q1_7 q2_7 q3_7 q4_7 q8 q9 : Nat), w1 = [(h0, .inr (6, [.ref q1, .ref q2, .ref q3, .ref q4, .ref q5, .ref q6, .ref q7, .ref q8, .ref q9])), (q1, .inr (1, [.ref q1_1, .int 0])), (q1_1, .inl (G.2.1, 20, .inl (fun _ => 0))), (q2, .inr (5, [.int (3 : Int32), .int 0, .int (4 : Int32), .int (9 : Int32), .int 0, .int 0, .int 0, .int 0, .ref q1_2, .ref q2_2, .ref q3_2, .ref q4_2, .ref q5_2, .ref q6_2, .ref q7_2])), (q1_2, .inl (G.2.1, 6, .inl (upd (upd (upd (upd (upd (upd (fun _ => 0) 0 (5 : Int32)) 1 (5 : Int32)) 2 (5 : Int32)) 3 (0 : Int32)) 4 (0 : Int32)) 5 (0 : Int32)))), (q2_2, .inl (G.2.1, 8, .inl (fun _ => 0))), (q3_2, .inl (G.2.1, 8, .inl (fun _ => 0))), (q4_2, .inl (G.2.1, 8, .inl (fun _ => 0))), (q5_2, .inl (G.2.1, 8, .inl (fun _ => 0))), (q6_2, .inl (G.2.1, 8, .inl (fun _ => 0))), (q7_2, .inl (G.2.1, 8, .inl (fun _ => 0))), (q3, .inl (G.2.2.2.1, 2, .inr (.inr (.inr (.inr (fun _ => none)))))), (q4, .inr (4, [.ref q2, .ref q1_4])), (q1_4, .inl (G.2.1, 8, .inl (fun _ => 0))), (q5, .inr (2, [.ref q2, .ref q4, .ref q1_5, .ref q2_5, .ref q3_5, .ref q4_5])), (q1_5, .inl (G.2.1, 66, .inl (fun _ => 0))), (q2_5, .inl (G.2.1, 6, .inl (fun _ => 0))), (q3_5, .inl (G.2.1, 77, .inl (fun _ => 0))), (q4_5, .inl (G.2.1, 66, .inl (fun _ => 0))), (q6, .inr (3, [.ref q2, .ref q5, .ref q1_6, .ref q2_6])), (q1_6, .inl (G.2.1, 70, .inl (fun _ => 0))), (q2_6, .inl (G.2.1, 328, .inl (fun _ => 0))), (q7, .inr (0, [.ref q2, .ref q4, .ref q1_7, .ref q2_7, .ref q3_7, .ref q4_7, .int 0, .int 0, .int 0])), (q1_7, .inl (G.2.1, 462, .inl (fun _ => 0))), (q2_7, .inl (G.2.1, 462, .inl (fun _ => 0))), (q3_7, .inl (G.2.1, 6, .inl (fun _ => 0))), (q4_7, .inl (G.2.1, 6, .inl (fun _ => 0))), (q8, .inl (G.2.1, 6, .inl (fun _ => 0))), (q9, .inl (G.2.1, 6, .inl (fun _ => 0)))]) := by
  refine Mt_of2 (own := "TramGod") (nm := "<init>") rfl rfl rfl (Nat.le_of_ble_eq_true rfl) (lv := [(0, .ref h0)]) rfl ?_
  refine V_aload_n eX6_init_0 0 rfl ?_
  refine V_objInit eX6_init_1 tw_17 tw_18 tc_19 (Nat.le_of_ble_eq_true rfl) (Nat.le_of_ble_eq_true rfl) ?_
  refine V_aload_n eX6_init_4 0 rfl ?_
  refine V_new tyX1 [.null, .int 0] eX6_init_5 inX1 tyX1_ok tw_20 tw_21 tw_2 (ci := 1) rfl (by decide +kernel) (Nat.le_of_ble_eq_true rfl) (Nat.le_of_ble_eq_true rfl) (fun q1 => ?_)
  refine V_dup eX6_init_8 rfl ?_
  refine V_callINF (rest := [.ref q1, .ref h0]) (wc := [(q1, .inr (1, [.null, .int 0]))]) (wr := [(h0, .inr (6, [.null, .null, .null, .null, .null, .null, .null, .null, .null]))]) eX6_init_9 (ktX1_init l G q1) tc_24 (List.mem_of_getElem? (i := 0) rfl) tw_2 tw_23 rfl hdX1_init rfl ⟨Nat.le_of_ble_eq_true rfl, Nat.le_of_ble_eq_true rfl⟩ ⟨Nat.le_of_ble_eq_true rfl, Nat.le_of_ble_eq_true rfl⟩ rfl (Nat.le_of_ble_eq_true rfl) [1] [0] rfl rfl rfl (by decide) (by decide) (fun v w1 hq => ?_)
  obtain ⟨rfl, q1_1, rfl⟩ := hq
  show V l G _ _ _ _ _ _ _ _ _ _ [.ref q1, .ref h0] [(h0, .inr (6, [.null, .null, .null, .null, .null, .null, .null, .null, .null])), (q1, .inr (1, [.ref q1_1, .int 0])), (q1_1, .inl (G.2.1, 20, .inl (fun _ => 0)))] _ _
  refine V_putF (w' := [(h0, .inr (6, [.ref q1, .null, .null, .null, .null, .null, .null, .null, .null])), (q1, .inr (1, [.ref q1_1, .int 0])), (q1_1, .inl (G.2.1, 20, .inl (fun _ => 0)))]) eX6_init_12 rfl inX6 tyX6 tyX6_ok nmX6 0 rfl rfl 0 (Nat.le_of_ble_eq_true rfl) tw_207 rfl rfl rfl rfl rfl (Nat.le_of_ble_eq_true rfl) rfl ?_
  refine V_aload_n eX6_init_15 0 rfl ?_
  refine V_new tyX5 [.int 0, .int 0, .int 0, .int 0, .int 0, .int 0, .int 0, .int 0, .null, .null, .null, .null, .null, .null, .null] eX6_init_16 inX5 tyX5_ok tw_36 tw_37 tw_3 (ci := 5) rfl (by decide +kernel) (Nat.le_of_ble_eq_true rfl) (Nat.le_of_ble_eq_true rfl) (fun q2 => ?_)
  refine V_dup eX6_init_19 rfl ?_
  refine V_callINF (rest := [.ref q2, .ref h0]) (wc := [(q2, .inr (5, [.int 0, .int 0, .int 0, .int 0, .int 0, .int 0, .int 0, .int 0, .null, .null, .null, .null, .null, .null, .null]))]) (wr := [(h0, .inr (6, [.ref q1, .null, .null, .null, .null, .null, .null, .null, .null])), (q1, .inr (1, [.ref q1_1, .int 0])), (q1_1, .inl (G.2.1, 20, .inl (fun _ => 0)))]) eX6_init_20 (ktX5_init l G q2) tc_40 (List.mem_of_getElem? (i := 1) rfl) tw_3 tw_39 rfl hdX5_init rfl ⟨Nat.le_of_ble_eq_true rfl, Nat.le_of_ble_eq_true rfl⟩ ⟨Nat.le_of_ble_eq_true rfl, Nat.le_of_ble_eq_true rfl⟩ rfl (Nat.le_of_ble_eq_true rfl) [3] [0, 1, 2] rfl rfl rfl (by decide) (by decide) (fun v w1 hq => ?_)
  obtain ⟨rfl, q1_2, q2_2, q3_2, q4_2, q5_2, q6_2, q7_2, rfl⟩ := hq
  show V l G _ _ _ _ _ _ _ _ _ _ [.ref q2, .ref h0] [(h0, .inr (6, [.ref q1, .null, .null, .null, .null, .null, .null, .null, .null])), (q1, .inr (1, [.ref q1_1, .int 0])), (q1_1, .inl (G.2.1, 20, .inl (fun _ => 0))), (q2, .inr (5, [.int (3 : Int32), .int 0, .int (4 : Int32), .int (9 : Int32), .int 0, .int 0, .int 0, .int 0, .ref q1_2, .ref q2_2, .ref q3_2, .ref q4_2, .ref q5_2, .ref q6_2, .ref q7_2])), (q1_2, .inl (G.2.1, 6, .inl (upd (upd (upd (upd (upd (upd (fun _ => 0) 0 (5 : Int32)) 1 (5 : Int32)) 2 (5 : Int32)) 3 (0 : Int32)) 4 (0 : Int32)) 5 (0 : Int32)))), (q2_2, .inl (G.2.1, 8, .inl (fun _ => 0))), (q3_2, .inl (G.2.1, 8, .inl (fun _ => 0))), (q4_2, .inl (G.2.1, 8, .inl (fun _ => 0))), (q5_2, .inl (G.2.1, 8, .inl (fun _ => 0))), (q6_2, .inl (G.2.1, 8, .inl (fun _ => 0))), (q7_2, .inl (G.2.1, 8, .inl (fun _ => 0)))] _ _
  refine V_putF (w' := [(h0, .inr (6, [.ref q1, .ref q2, .null, .null, .null, .null, .null, .null, .null])), (q1, .inr (1, [.ref q1_1, .int 0])), (q1_1, .inl (G.2.1, 20, .inl (fun _ => 0))), (q2, .inr (5, [.int (3 : Int32), .int 0, .int (4 : Int32), .int (9 : Int32), .int 0, .int 0, .int 0, .int 0, .ref q1_2, .ref q2_2, .ref q3_2, .ref q4_2, .ref q5_2, .ref q6_2, .ref q7_2])), (q1_2, .inl (G.2.1, 6, .inl (upd (upd (upd (upd (upd (upd (fun _ => 0) 0 (5 : Int32)) 1 (5 : Int32)) 2 (5 : Int32)) 3 (0 : Int32)) 4 (0 : Int32)) 5 (0 : Int32)))), (q2_2, .inl (G.2.1, 8, .inl (fun _ => 0))), (q3_2, .inl (G.2.1, 8, .inl (fun _ => 0))), (q4_2, .inl (G.2.1, 8, .inl (fun _ => 0))), (q5_2, .inl (G.2.1, 8, .inl (fun _ => 0))), (q6_2, .inl (G.2.1, 8, .inl (fun _ => 0))), (q7_2, .inl (G.2.1, 8, .inl (fun _ => 0)))]) eX6_init_23 rfl inX6 tyX6 tyX6_ok nmX6 0 rfl rfl 1 (Nat.le_of_ble_eq_true rfl) tw_208 rfl rfl rfl rfl rfl (Nat.le_of_ble_eq_true rfl) rfl ?_
  refine V_aload_n eX6_init_26 0 rfl ?_
  refine V_iconst (v := (2 : Int32)) eX6_init_27 rfl ?_
  refine V_newq (N := 2) eX6_init_28 tw_36 (by decide) (by decide +kernel) (Nat.le_of_ble_eq_true rfl) (Nat.le_of_ble_eq_true rfl) (Nat.le_of_ble_eq_true rfl) (fun q3 => ?_)
  refine V_putF (w' := [(h0, .inr (6, [.ref q1, .ref q2, .ref q3, .null, .null, .null, .null, .null, .null])), (q1, .inr (1, [.ref q1_1, .int 0])), (q1_1, .inl (G.2.1, 20, .inl (fun _ => 0))), (q2, .inr (5, [.int (3 : Int32), .int 0, .int (4 : Int32), .int (9 : Int32), .int 0, .int 0, .int 0, .int 0, .ref q1_2, .ref q2_2, .ref q3_2, .ref q4_2, .ref q5_2, .ref q6_2, .ref q7_2])), (q1_2, .inl (G.2.1, 6, .inl (upd (upd (upd (upd (upd (upd (fun _ => 0) 0 (5 : Int32)) 1 (5 : Int32)) 2 (5 : Int32)) 3 (0 : Int32)) 4 (0 : Int32)) 5 (0 : Int32)))), (q2_2, .inl (G.2.1, 8, .inl (fun _ => 0))), (q3_2, .inl (G.2.1, 8, .inl (fun _ => 0))), (q4_2, .inl (G.2.1, 8, .inl (fun _ => 0))), (q5_2, .inl (G.2.1, 8, .inl (fun _ => 0))), (q6_2, .inl (G.2.1, 8, .inl (fun _ => 0))), (q7_2, .inl (G.2.1, 8, .inl (fun _ => 0))), (q3, .inl (G.2.2.2.1, 2, .inr (.inr (.inr (.inr (fun _ => none))))))]) eX6_init_31 rfl inX6 tyX6 tyX6_ok nmX6 0 rfl rfl 2 (Nat.le_of_ble_eq_true rfl) tw_209 rfl rfl rfl rfl rfl (Nat.le_of_ble_eq_true rfl) rfl ?_
  refine V_aload_n eX6_init_34 0 rfl ?_
  refine V_new tyX4 [.null, .null] eX6_init_35 inX4 tyX4_ok tw_113 tw_114 tw_4 (ci := 4) rfl (by decide +kernel) (Nat.le_of_ble_eq_true rfl) (Nat.le_of_ble_eq_true rfl) (fun q4 => ?_)
  refine V_dup eX6_init_38 rfl ?_
  refine V_aload_n eX6_init_39 0 rfl ?_
  refine V_get (v := .ref q2) eX6_init_40 inX6 0 rfl rfl 1 (Nat.le_of_ble_eq_true rfl) tw_208 rfl ?_
  refine V_callIF (rest := [.ref q4, .ref h0]) (wc := [(q4, .inr (4, [.null, .null]))]) (wr := [(h0, .inr (6, [.ref q1, .ref q2, .ref q3, .null, .null, .null, .null, .null, .null])), (q1, .inr (1, [.ref q1_1, .int 0])), (q1_1, .inl (G.2.1, 20, .inl (fun _ => 0))), (q2, .inr (5, [.int (3 : Int32), .int 0, .int (4 : Int32), .int (9 : Int32), .int 0, .int 0, .int 0, .int 0, .ref q1_2, .ref q2_2, .ref q3_2, .ref q4_2, .ref q5_2, .ref q6_2, .ref q7_2])), (q1_2, .inl (G.2.1, 6, .inl (upd (upd (upd (upd (upd (upd (fun _ => 0) 0 (5 : Int32)) 1 (5 : Int32)) 2 (5 : Int32)) 3 (0 : Int32)) 4 (0 : Int32)) 5 (0 : Int32)))), (q2_2, .inl (G.2.1, 8, .inl (fun _ => 0))), (q3_2, .inl (G.2.1, 8, .inl (fun _ => 0))), (q4_2, .inl (G.2.1, 8, .inl (fun _ => 0))), (q5_2, .inl (G.2.1, 8, .inl (fun _ => 0))), (q6_2, .inl (G.2.1, 8, .inl (fun _ => 0))), (q7_2, .inl (G.2.1, 8, .inl (fun _ => 0))), (q3, .inl (G.2.2.2.1, 2, .inr (.inr (.inr (.inr (fun _ => none))))))]) eX6_init_43 (ktX4_init l G q4 q2) tc_117 tw_115 tw_4 tw_116 rfl hdX4_init rfl ⟨Nat.le_of_ble_eq_true rfl, Nat.le_of_ble_eq_true rfl⟩ ⟨Nat.le_of_ble_eq_true rfl, Nat.le_of_ble_eq_true rfl⟩ rfl (Nat.le_of_ble_eq_true rfl) [12] [0, 1, 2, 3, 4, 5, 6, 7, 8, 9, 10, 11] rfl rfl rfl (by decide) (by decide) (fun v w1 hq => ?_)
  obtain ⟨rfl, q1_4, rfl⟩ := hq
  show V l G _ _ _ _ _ _ _ _ _ _ [.ref q4, .ref h0] [(h0, .inr (6, [.ref q1, .ref q2, .ref q3, .null, .null, .null, .null, .null, .null])), (q1, .inr (1, [.ref q1_1, .int 0])), (q1_1, .inl (G.2.1, 20, .inl (fun _ => 0))), (q2, .inr (5, [.int (3 : Int32), .int 0, .int (4 : Int32), .int (9 : Int32), .int 0, .int 0, .int 0, .int 0, .ref q1_2, .ref q2_2, .ref q3_2, .ref q4_2, .ref q5_2, .ref q6_2, .ref q7_2])), (q1_2, .inl (G.2.1, 6, .inl (upd (upd (upd (upd (upd (upd (fun _ => 0) 0 (5 : Int32)) 1 (5 : Int32)) 2 (5 : Int32)) 3 (0 : Int32)) 4 (0 : Int32)) 5 (0 : Int32)))), (q2_2, .inl (G.2.1, 8, .inl (fun _ => 0))), (q3_2, .inl (G.2.1, 8, .inl (fun _ => 0))), (q4_2, .inl (G.2.1, 8, .inl (fun _ => 0))), (q5_2, .inl (G.2.1, 8, .inl (fun _ => 0))), (q6_2, .inl (G.2.1, 8, .inl (fun _ => 0))), (q7_2, .inl (G.2.1, 8, .inl (fun _ => 0))), (q3, .inl (G.2.2.2.1, 2, .inr (.inr (.inr (.inr (fun _ => none)))))), (q4, .inr (4, [.ref q2, .ref q1_4])), (q1_4, .inl (G.2.1, 8, .inl (fun _ => 0)))] _ _
  refine V_putF (w' := [(h0, .inr (6, [.ref q1, .ref q2, .ref q3, .ref q4, .null, .null, .null, .null, .null])), (q1, .inr (1, [.ref q1_1, .int 0])), (q1_1, .inl (G.2.1, 20, .inl (fun _ => 0))), (q2, .inr (5, [.int (3 : Int32), .int 0, .int (4 : Int32), .int (9 : Int32), .int 0, .int 0, .int 0, .int 0, .ref q1_2, .ref q2_2, .ref q3_2, .ref q4_2, .ref q5_2, .ref q6_2, .ref q7_2])), (q1_2, .inl (G.2.1, 6, .inl (upd (upd (upd (upd (upd (upd (fun _ => 0) 0 (5 : Int32)) 1 (5 : Int32)) 2 (5 : Int32)) 3 (0 : Int32)) 4 (0 : Int32)) 5 (0 : Int32)))), (q2_2, .inl (G.2.1, 8, .inl (fun _ => 0))), (q3_2, .inl (G.2.1, 8, .inl (fun _ => 0))), (q4_2, .inl (G.2.1, 8, .inl (fun _ => 0))), (q5_2, .inl (G.2.1, 8, .inl (fun _ => 0))), (q6_2, .inl (G.2.1, 8, .inl (fun _ => 0))), (q7_2, .inl (G.2.1, 8, .inl (fun _ => 0))), (q3, .inl (G.2.2.2.1, 2, .inr (.inr (.inr (.inr (fun _ => none)))))), (q4, .inr (4, [.ref q2, .ref q1_4])), (q1_4, .inl (G.2.1, 8, .inl (fun _ => 0)))]) eX6_init_46 rfl inX6 tyX6 tyX6_ok nmX6 0 rfl rfl 3 (Nat.le_of_ble_eq_true rfl) tw_210 rfl rfl rfl rfl rfl (Nat.le_of_ble_eq_true rfl) rfl ?_
  refine V_aload_n eX6_init_49 0 rfl ?_
  refine V_new tyX2 [.null, .null, .null, .null, .null, .null] eX6_init_50 inX2 tyX2_ok tw_127 tw_128 tw_5 (ci := 2) rfl (by decide +kernel) (Nat.le_of_ble_eq_true rfl) (Nat.le_of_ble_eq_true rfl) (fun q5 => ?_)
  refine V_dup eX6_init_53 rfl ?_
  refine V_aload_n eX6_init_54 0 rfl ?_
  refine V_get (v := .ref q2) eX6_init_55 inX6 0 rfl rfl 1 (Nat.le_of_ble_eq_true rfl) tw_208 rfl ?_
  refine V_aload_n eX6_init_58 0 rfl ?_
  refine V_get (v := .ref q4) eX6_init_59 inX6 0 rfl rfl 3 (Nat.le_of_ble_eq_true rfl) tw_210 rfl ?_
  refine V_callIF (rest := [.ref q5, .ref h0]) (wc := [(q5, .inr (2, [.null, .null, .null, .null, .null, .null]))]) (wr := [(h0, .inr (6, [.ref q1, .ref q2, .ref q3, .ref q4, .null, .null, .null, .null, .null])), (q1, .inr (1, [.ref q1_1, .int 0])), (q1_1, .inl (G.2.1, 20, .inl (fun _ => 0))), (q2, .inr (5, [.int (3 : Int32), .int 0, .int (4 : Int32), .int (9 : Int32), .int 0, .int 0, .int 0, .int 0, .ref q1_2, .ref q2_2, .ref q3_2, .ref q4_2, .ref q5_2, .ref q6_2, .ref q7_2])), (q1_2, .inl (G.2.1, 6, .inl (upd (upd (upd (upd (upd (upd (fun _ => 0) 0 (5 : Int32)) 1 (5 : Int32)) 2 (5 : Int32)) 3 (0 : Int32)) 4 (0 : Int32)) 5 (0 : Int32)))), (q2_2, .inl (G.2.1, 8, .inl (fun _ => 0))), (q3_2, .inl (G.2.1, 8, .inl (fun _ => 0))), (q4_2, .inl (G.2.1, 8, .inl (fun _ => 0))), (q5_2, .inl (G.2.1, 8, .inl (fun _ => 0))), (q6_2, .inl (G.2.1, 8, .inl (fun _ => 0))), (q7_2, .inl (G.2.1, 8, .inl (fun _ => 0))), (q3, .inl (G.2.2.2.1, 2, .inr (.inr (.inr (.inr (fun _ => none)))))), (q4, .inr (4, [.ref q2, .ref q1_4])), (q1_4, .inl (G.2.1, 8, .inl (fun _ => 0)))]) eX6_init_62 (ktX2_init l G q5 q2 q4) tc_131 tw_129 tw_5 tw_130 rfl hdX2_init rfl ⟨Nat.le_of_ble_eq_true rfl, Nat.le_of_ble_eq_true rfl⟩ ⟨Nat.le_of_ble_eq_true rfl, Nat.le_of_ble_eq_true rfl⟩ rfl (Nat.le_of_ble_eq_true rfl) [14] [0, 1, 2, 3, 4, 5, 6, 7, 8, 9, 10, 11, 12, 13] rfl rfl rfl (by decide) (by decide) (fun v w1 hq => ?_)
  obtain ⟨rfl, q1_5, q2_5, q3_5, q4_5, rfl⟩ := hq
  show V l G _ _ _ _ _ _ _ _ _ _ [.ref q5, .ref h0] [(h0, .inr (6, [.ref q1, .ref q2, .ref q3, .ref q4, .null, .null, .null, .null, .null])), (q1, .inr (1, [.ref q1_1, .int 0])), (q1_1, .inl (G.2.1, 20, .inl (fun _ => 0))), (q2, .inr (5, [.int (3 : Int32), .int 0, .int (4 : Int32), .int (9 : Int32), .int 0, .int 0, .int 0, .int 0, .ref q1_2, .ref q2_2, .ref q3_2, .ref q4_2, .ref q5_2, .ref q6_2, .ref q7_2])), (q1_2, .inl (G.2.1, 6, .inl (upd (upd (upd (upd (upd (upd (fun _ => 0) 0 (5 : Int32)) 1 (5 : Int32)) 2 (5 : Int32)) 3 (0 : Int32)) 4 (0 : Int32)) 5 (0 : Int32)))), (q2_2, .inl (G.2.1, 8, .inl (fun _ => 0))), (q3_2, .inl (G.2.1, 8, .inl (fun _ => 0))), (q4_2, .inl (G.2.1, 8, .inl (fun _ => 0))), (q5_2, .inl (G.2.1, 8, .inl (fun _ => 0))), (q6_2, .inl (G.2.1, 8, .inl (fun _ => 0))), (q7_2, .inl (G.2.1, 8, .inl (fun _ => 0))), (q3, .inl (G.2.2.2.1, 2, .inr (.inr (.inr (.inr (fun _ => none)))))), (q4, .inr (4, [.ref q2, .ref q1_4])), (q1_4, .inl (G.2.1, 8, .inl (fun _ => 0))), (q5, .inr (2, [.ref q2, .ref q4, .ref q1_5, .ref q2_5, .ref q3_5, .ref q4_5])), (q1_5, .inl (G.2.1, 66, .inl (fun _ => 0))), (q2_5, .inl (G.2.1, 6, .inl (fun _ => 0))), (q3_5, .inl (G.2.1, 77, .inl (fun _ => 0))), (q4_5, .inl (G.2.1, 66, .inl (fun _ => 0)))] _ _
  refine V_putF (w' := [(h0, .inr (6, [.ref q1, .ref q2, .ref q3, .ref q4, .ref q5, .null, .null, .null, .null])), (q1, .inr (1, [.ref q1_1, .int 0])), (q1_1, .inl (G.2.1, 20, .inl (fun _ => 0))), (q2, .inr (5, [.int (3 : Int32), .int 0, .int (4 : Int32), .int (9 : Int32), .int 0, .int 0, .int 0, .int 0, .ref q1_2, .ref q2_2, .ref q3_2, .ref q4_2, .ref q5_2, .ref q6_2, .ref q7_2])), (q1_2, .inl (G.2.1, 6, .inl (upd (upd (upd (upd (upd (upd (fun _ => 0) 0 (5 : Int32)) 1 (5 : Int32)) 2 (5 : Int32)) 3 (0 : Int32)) 4 (0 : Int32)) 5 (0 : Int32)))), (q2_2, .inl (G.2.1, 8, .inl (fun _ => 0))), (q3_2, .inl (G.2.1, 8, .inl (fun _ => 0))), (q4_2, .inl (G.2.1, 8, .inl (fun _ => 0))), (q5_2, .inl (G.2.1, 8, .inl (fun _ => 0))), (q6_2, .inl (G.2.1, 8, .inl (fun _ => 0))), (q7_2, .inl (G.2.1, 8, .inl (fun _ => 0))), (q3, .inl (G.2.2.2.1, 2, .inr (.inr (.inr (.inr (fun _ => none)))))), (q4, .inr (4, [.ref q2, .ref q1_4])), (q1_4, .inl (G.2.1, 8, .inl (fun _ => 0))), (q5, .inr (2, [.ref q2, .ref q4, .ref q1_5, .ref q2_5, .ref q3_5, .ref q4_5])), (q1_5, .inl (G.2.1, 66, .inl (fun _ => 0))), (q2_5, .inl (G.2.1, 6, .inl (fun _ => 0))), (q3_5, .inl (G.2.1, 77, .inl (fun _ => 0))), (q4_5, .inl (G.2.1, 66, .inl (fun _ => 0)))]) eX6_init_65 rfl inX6 tyX6 tyX6_ok nmX6 0 rfl rfl 4 (Nat.le_of_ble_eq_true rfl) tw_211 rfl rfl rfl rfl rfl (Nat.le_of_ble_eq_true rfl) rfl ?_
  refine V_aload_n eX6_init_68 0 rfl ?_
  refine V_new tyX3 [.null, .null, .null, .null] eX6_init_69 inX3 tyX3_ok tw_153 tw_154 tw_6 (ci := 3) rfl (by decide +kernel) (Nat.le_of_ble_eq_true rfl) (Nat.le_of_ble_eq_true rfl) (fun q6 => ?_)
  refine V_dup eX6_init_72 rfl ?_
  refine V_aload_n eX6_init_73 0 rfl ?_
  refine V_get (v := .ref q2) eX6_init_74 inX6 0 rfl rfl 1 (Nat.le_of_ble_eq_true rfl) tw_208 rfl ?_
  refine V_aload_n eX6_init_77 0 rfl ?_
  refine V_get (v := .ref q5) eX6_init_78 inX6 0 rfl rfl 4 (Nat.le_of_ble_eq_true rfl) tw_211 rfl ?_
  refine V_callIF (rest := [.ref q6, .ref h0]) (wc := [(q6, .inr (3, [.null, .null, .null, .null]))]) (wr := [(h0, .inr (6, [.ref q1, .ref q2, .ref q3, .ref q4, .ref q5, .null, .null, .null, .null])), (q1, .inr (1, [.ref q1_1, .int 0])), (q1_1, .inl (G.2.1, 20, .inl (fun _ => 0))), (q2, .inr (5, [.int (3 : Int32), .int 0, .int (4 : Int32), .int (9 : Int32), .int 0, .int 0, .int 0, .int 0, .ref q1_2, .ref q2_2, .ref q3_2, .ref q4_2, .ref q5_2, .ref q6_2, .ref q7_2])), (q1_2, .inl (G.2.1, 6, .inl (upd (upd (upd (upd (upd (upd (fun _ => 0) 0 (5 : Int32)) 1 (5 : Int32)) 2 (5 : Int32)) 3 (0 : Int32)) 4 (0 : Int32)) 5 (0 : Int32)))), (q2_2, .inl (G.2.1, 8, .inl (fun _ => 0))), (q3_2, .inl (G.2.1, 8, .inl (fun _ => 0))), (q4_2, .inl (G.2.1, 8, .inl (fun _ => 0))), (q5_2, .inl (G.2.1, 8, .inl (fun _ => 0))), (q6_2, .inl (G.2.1, 8, .inl (fun _ => 0))), (q7_2, .inl (G.2.1, 8, .inl (fun _ => 0))), (q3, .inl (G.2.2.2.1, 2, .inr (.inr (.inr (.inr (fun _ => none)))))), (q4, .inr (4, [.ref q2, .ref q1_4])), (q1_4, .inl (G.2.1, 8, .inl (fun _ => 0))), (q5, .inr (2, [.ref q2, .ref q4, .ref q1_5, .ref q2_5, .ref q3_5, .ref q4_5])), (q1_5, .inl (G.2.1, 66, .inl (fun _ => 0))), (q2_5, .inl (G.2.1, 6, .inl (fun _ => 0))), (q3_5, .inl (G.2.1, 77, .inl (fun _ => 0))), (q4_5, .inl (G.2.1, 66, .inl (fun _ => 0)))]) eX6_init_81 (ktX3_init l G q6 q2 q5) tc_157 tw_155 tw_6 tw_156 rfl hdX3_init rfl ⟨Nat.le_of_ble_eq_true rfl, Nat.le_of_ble_eq_true rfl⟩ ⟨Nat.le_of_ble_eq_true rfl, Nat.le_of_ble_eq_true rfl⟩ rfl (Nat.le_of_ble_eq_true rfl) [19] [0, 1, 2, 3, 4, 5, 6, 7, 8, 9, 10, 11, 12, 13, 14, 15, 16, 17, 18] rfl rfl rfl (by decide) (by decide) (fun v w1 hq => ?_)
  obtain ⟨rfl, q1_6, q2_6, rfl⟩ := hq
  show V l G _ _ _ _ _ _ _ _ _ _ [.ref q6, .ref h0] [(h0, .inr (6, [.ref q1, .ref q2, .ref q3, .ref q4, .ref q5, .null, .null, .null, .null])), (q1, .inr (1, [.ref q1_1, .int 0])), (q1_1, .inl (G.2.1, 20, .inl (fun _ => 0))), (q2, .inr (5, [.int (3 : Int32), .int 0, .int (4 : Int32), .int (9 : Int32), .int 0, .int 0, .int 0, .int 0, .ref q1_2, .ref q2_2, .ref q3_2, .ref q4_2, .ref q5_2, .ref q6_2, .ref q7_2])), (q1_2, .inl (G.2.1, 6, .inl (upd (upd (upd (upd (upd (upd (fun _ => 0) 0 (5 : Int32)) 1 (5 : Int32)) 2 (5 : Int32)) 3 (0 : Int32)) 4 (0 : Int32)) 5 (0 : Int32)))), (q2_2, .inl (G.2.1, 8, .inl (fun _ => 0))), (q3_2, .inl (G.2.1, 8, .inl (fun _ => 0))), (q4_2, .inl (G.2.1, 8, .inl (fun _ => 0))), (q5_2, .inl (G.2.1, 8, .inl (fun _ => 0))), (q6_2, .inl (G.2.1, 8, .inl (fun _ => 0))), (q7_2, .inl (G.2.1, 8, .inl (fun _ => 0))), (q3, .inl (G.2.2.2.1, 2, .inr (.inr (.inr (.inr (fun _ => none)))))), (q4, .inr (4, [.ref q2, .ref q1_4])), (q1_4, .inl (G.2.1, 8, .inl (fun _ => 0))), (q5, .inr (2, [.ref q2, .ref q4, .ref q1_5, .ref q2_5, .ref q3_5, .ref q4_5])), (q1_5, .inl (G.2.1, 66, .inl (fun _ => 0))), (q2_5, .inl (G.2.1, 6, .inl (fun _ => 0))), (q3_5, .inl (G.2.1, 77, .inl (fun _ => 0))), (q4_5, .inl (G.2.1, 66, .inl (fun _ => 0))), (q6, .inr (3, [.ref q2, .ref q5, .ref q1_6, .ref q2_6])), (q1_6, .inl (G.2.1, 70, .inl (fun _ => 0))), (q2_6, .inl (G.2.1, 328, .inl (fun _ => 0)))] _ _
  refine V_putF (w' := [(h0, .inr (6, [.ref q1, .ref q2, .ref q3, .ref q4, .ref q5, .ref q6, .null, .null, .null])), (q1, .inr (1, [.ref q1_1, .int 0])), (q1_1, .inl (G.2.1, 20, .inl (fun _ => 0))), (q2, .inr (5, [.int (3 : Int32), .int 0, .int (4 : Int32), .int (9 : Int32), .int 0, .int 0, .int 0, .int 0, .ref q1_2, .ref q2_2, .ref q3_2, .ref q4_2, .ref q5_2, .ref q6_2, .ref q7_2])), (q1_2, .inl (G.2.1, 6, .inl (upd (upd (upd (upd (upd (upd (fun _ => 0) 0 (5 : Int32)) 1 (5 : Int32)) 2 (5 : Int32)) 3 (0 : Int32)) 4 (0 : Int32)) 5 (0 : Int32)))), (q2_2, .inl (G.2.1, 8, .inl (fun _ => 0))), (q3_2, .inl (G.2.1, 8, .inl (fun _ => 0))), (q4_2, .inl (G.2.1, 8, .inl (fun _ => 0))), (q5_2, .inl (G.2.1, 8, .inl (fun _ => 0))), (q6_2, .inl (G.2.1, 8, .inl (fun _ => 0))), (q7_2, .inl (G.2.1, 8, .inl (fun _ => 0))), (q3, .inl (G.2.2.2.1, 2, .inr (.inr (.inr (.inr (fun _ => none)))))), (q4, .inr (4, [.ref q2, .ref q1_4])), (q1_4, .inl (G.2.1, 8, .inl (fun _ => 0))), (q5, .inr (2, [.ref q2, .ref q4, .ref q1_5, .ref q2_5, .ref q3_5, .ref q4_5])), (q1_5, .inl (G.2.1, 66, .inl (fun _ => 0))), (q2_5, .inl (G.2.1, 6, .inl (fun _ => 0))), (q3_5, .inl (G.2.1, 77, .inl (fun _ => 0))), (q4_5, .inl (G.2.1, 66, .inl (fun _ => 0))), (q6, .inr (3, [.ref q2, .ref q5, .ref q1_6, .ref q2_6])), (q1_6, .inl (G.2.1, 70, .inl (fun _ => 0))), (q2_6, .inl (G.2.1, 328, .inl (fun _ => 0)))]) eX6_init_84 rfl inX6 tyX6 tyX6_ok nmX6 0 rfl rfl 5 (Nat.le_of_ble_eq_true rfl) tw_212 rfl rfl rfl rfl rfl (Nat.le_of_ble_eq_true rfl) rfl ?_
  refine V_aload_n eX6_init_87 0 rfl ?_
  refine V_new tyX0 [.null, .null, .null, .null, .null, .null, .int 0, .int 0, .int 0] eX6_init_88 inX0 tyX0_ok tw_172 tw_173 tw_7 (ci := 0) rfl (by decide +kernel) (Nat.le_of_ble_eq_true rfl) (Nat.le_of_ble_eq_true rfl) (fun q7 => ?_)
  refine V_dup eX6_init_91 rfl ?_
  refine V_aload_n eX6_init_92 0 rfl ?_
  refine V_get (v := .ref q2) eX6_init_93 inX6 0 rfl rfl 1 (Nat.le_of_ble_eq_true rfl) tw_208 rfl ?_
  refine V_aload_n eX6_init_96 0 rfl ?_
  refine V_get (v := .ref q4) eX6_init_97 inX6 0 rfl rfl 3 (Nat.le_of_ble_eq_true rfl) tw_210 rfl ?_
  refine V_callIF (rest := [.ref q7, .ref h0]) (wc := [(q7, .inr (0, [.null, .null, .null, .null, .null, .null, .int 0, .int 0, .int 0]))]) (wr := [(h0, .inr (6, [.ref q1, .ref q2, .ref q3, .ref q4, .ref q5, .ref q6, .null, .null, .null])), (q1, .inr (1, [.ref q1_1, .int 0])), (q1_1, .inl (G.2.1, 20, .inl (fun _ => 0))), (q2, .inr (5, [.int (3 : Int32), .int 0, .int (4 : Int32), .int (9 : Int32), .int 0, .int 0, .int 0, .int 0, .ref q1_2, .ref q2_2, .ref q3_2, .ref q4_2, .ref q5_2, .ref q6_2, .ref q7_2])), (q1_2, .inl (G.2.1, 6, .inl (upd (upd (upd (upd (upd (upd (fun _ => 0) 0 (5 : Int32)) 1 (5 : Int32)) 2 (5 : Int32)) 3 (0 : Int32)) 4 (0 : Int32)) 5 (0 : Int32)))), (q2_2, .inl (G.2.1, 8, .inl (fun _ => 0))), (q3_2, .inl (G.2.1, 8, .inl (fun _ => 0))), (q4_2, .inl (G.2.1, 8, .inl (fun _ => 0))), (q5_2, .inl (G.2.1, 8, .inl (fun _ => 0))), (q6_2, .inl (G.2.1, 8, .inl (fun _ => 0))), (q7_2, .inl (G.2.1, 8, .inl (fun _ => 0))), (q3, .inl (G.2.2.2.1, 2, .inr (.inr (.inr (.inr (fun _ => none)))))), (q4, .inr (4, [.ref q2, .ref q1_4])), (q1_4, .inl (G.2.1, 8, .inl (fun _ => 0))), (q5, .inr (2, [.ref q2, .ref q4, .ref q1_5, .ref q2_5, .ref q3_5, .ref q4_5])), (q1_5, .inl (G.2.1, 66, .inl (fun _ => 0))), (q2_5, .inl (G.2.1, 6, .inl (fun _ => 0))), (q3_5, .inl (G.2.1, 77, .inl (fun _ => 0))), (q4_5, .inl (G.2.1, 66, .inl (fun _ => 0))), (q6, .inr (3, [.ref q2, .ref q5, .ref q1_6, .ref q2_6])), (q1_6, .inl (G.2.1, 70, .inl (fun _ => 0))), (q2_6, .inl (G.2.1, 328, .inl (fun _ => 0)))]) eX6_init_100 (ktX0_init l G q7 q2 q4) tc_176 tw_174 tw_7 tw_175 rfl hdX0_init rfl ⟨Nat.le_of_ble_eq_true rfl, Nat.le_of_ble_eq_true rfl⟩ ⟨Nat.le_of_ble_eq_true rfl, Nat.le_of_ble_eq_true rfl⟩ rfl (Nat.le_of_ble_eq_true rfl) [22] [0, 1, 2, 3, 4, 5, 6, 7, 8, 9, 10, 11, 12, 13, 14, 15, 16, 17, 18, 19, 20, 21] rfl rfl rfl (by decide) (by decide) (fun v w1 hq => ?_)
  obtain ⟨rfl, q1_7, q2_7, q3_7, q4_7, rfl⟩ := hq
  show V l G _ _ _ _ _ _ _ _ _ _ [.ref q7, .ref h0] [(h0, .inr (6, [.ref q1, .ref q2, .ref q3, .ref q4, .ref q5, .ref q6, .null, .null, .null])), (q1, .inr (1, [.ref q1_1, .int 0])), (q1_1, .inl (G.2.1, 20, .inl (fun _ => 0))), (q2, .inr (5, [.int (3 : Int32), .int 0, .int (4 : Int32), .int (9 : Int32), .int 0, .int 0, .int 0, .int 0, .ref q1_2, .ref q2_2, .ref q3_2, .ref q4_2, .ref q5_2, .ref q6_2, .ref q7_2])), (q1_2, .inl (G.2.1, 6, .inl (upd (upd (upd (upd (upd (upd (fun _ => 0) 0 (5 : Int32)) 1 (5 : Int32)) 2 (5 : Int32)) 3 (0 : Int32)) 4 (0 : Int32)) 5 (0 : Int32)))), (q2_2, .inl (G.2.1, 8, .inl (fun _ => 0))), (q3_2, .inl (G.2.1, 8, .inl (fun _ => 0))), (q4_2, .inl (G.2.1, 8, .inl (fun _ => 0))), (q5_2, .inl (G.2.1, 8, .inl (fun _ => 0))), (q6_2, .inl (G.2.1, 8, .inl (fun _ => 0))), (q7_2, .inl (G.2.1, 8, .inl (fun _ => 0))), (q3, .inl (G.2.2.2.1, 2, .inr (.inr (.inr (.inr (fun _ => none)))))), (q4, .inr (4, [.ref q2, .ref q1_4])), (q1_4, .inl (G.2.1, 8, .inl (fun _ => 0))), (q5, .inr (2, [.ref q2, .ref q4, .ref q1_5, .ref q2_5, .ref q3_5, .ref q4_5])), (q1_5, .inl (G.2.1, 66, .inl (fun _ => 0))), (q2_5, .inl (G.2.1, 6, .inl (fun _ => 0))), (q3_5, .inl (G.2.1, 77, .inl (fun _ => 0))), (q4_5, .inl (G.2.1, 66, .inl (fun _ => 0))), (q6, .inr (3, [.ref q2, .ref q5, .ref q1_6, .ref q2_6])), (q1_6, .inl (G.2.1, 70, .inl (fun _ => 0))), (q2_6, .inl (G.2.1, 328, .inl (fun _ => 0))), (q7, .inr (0, [.ref q2, .ref q4, .ref q1_7, .ref q2_7, .ref q3_7, .ref q4_7, .int 0, .int 0, .int 0])), (q1_7, .inl (G.2.1, 462, .inl (fun _ => 0))), (q2_7, .inl (G.2.1, 462, .inl (fun _ => 0))), (q3_7, .inl (G.2.1, 6, .inl (fun _ => 0))), (q4_7, .inl (G.2.1, 6, .inl (fun _ => 0)))] _ _
  refine V_putF (w' := [(h0, .inr (6, [.ref q1, .ref q2, .ref q3, .ref q4, .ref q5, .ref q6, .ref q7, .null, .null])), (q1, .inr (1, [.ref q1_1, .int 0])), (q1_1, .inl (G.2.1, 20, .inl (fun _ => 0))), (q2, .inr (5, [.int (3 : Int32), .int 0, .int (4 : Int32), .int (9 : Int32), .int 0, .int 0, .int 0, .int 0, .ref q1_2, .ref q2_2, .ref q3_2, .ref q4_2, .ref q5_2, .ref q6_2, .ref q7_2])), (q1_2, .inl (G.2.1, 6, .inl (upd (upd (upd (upd (upd (upd (fun _ => 0) 0 (5 : Int32)) 1 (5 : Int32)) 2 (5 : Int32)) 3 (0 : Int32)) 4 (0 : Int32)) 5 (0 : Int32)))), (q2_2, .inl (G.2.1, 8, .inl (fun _ => 0))), (q3_2, .inl (G.2.1, 8, .inl (fun _ => 0))), (q4_2, .inl (G.2.1, 8, .inl (fun _ => 0))), (q5_2, .inl (G.2.1, 8, .inl (fun _ => 0))), (q6_2, .inl (G.2.1, 8, .inl (fun _ => 0))), (q7_2, .inl (G.2.1, 8, .inl (fun _ => 0))), (q3, .inl (G.2.2.2.1, 2, .inr (.inr (.inr (.inr (fun _ => none)))))), (q4, .inr (4, [.ref q2, .ref q1_4])), (q1_4, .inl (G.2.1, 8, .inl (fun _ => 0))), (q5, .inr (2, [.ref q2, .ref q4, .ref q1_5, .ref q2_5, .ref q3_5, .ref q4_5])), (q1_5, .inl (G.2.1, 66, .inl (fun _ => 0))), (q2_5, .inl (G.2.1, 6, .inl (fun _ => 0))), (q3_5, .inl (G.2.1, 77, .inl (fun _ => 0))), (q4_5, .inl (G.2.1, 66, .inl (fun _ => 0))), (q6, .inr (3, [.ref q2, .ref q5, .ref q1_6, .ref q2_6])), (q1_6, .inl (G.2.1, 70, .inl (fun _ => 0))), (q2_6, .inl (G.2.1, 328, .inl (fun _ => 0))), (q7, .inr (0, [.ref q2, .ref q4, .ref q1_7, .ref q2_7, .ref q3_7, .ref q4_7, .int 0, .int 0, .int 0])), (q1_7, .inl (G.2.1, 462, .inl (fun _ => 0))), (q2_7, .inl (G.2.1, 462, .inl (fun _ => 0))), (q3_7, .inl (G.2.1, 6, .inl (fun _ => 0))), (q4_7, .inl (G.2.1, 6, .inl (fun _ => 0)))]) eX6_init_103 rfl inX6 tyX6 tyX6_ok nmX6 0 rfl rfl 6 (Nat.le_of_ble_eq_true rfl) tw_213 rfl rfl rfl rfl rfl (Nat.le_of_ble_eq_true rfl) rfl ?_
  refine V_aload_n eX6_init_106 0 rfl ?_
  refine V_bipush (v := (6 : Int32)) eX6_init_107 rfl ?_
  refine V_newi (N := 6) eX6_init_109 ta_int (by decide) (by decide +kernel) (Nat.le_of_ble_eq_true rfl) (Nat.le_of_ble_eq_true rfl) (Nat.le_of_ble_eq_true rfl) (fun q8 => ?_)
  refine V_putF (w' := [(h0, .inr (6, [.ref q1, .ref q2, .ref q3, .ref q4, .ref q5, .ref q6, .ref q7, .ref q8, .null])), (q1, .inr (1, [.ref q1_1, .int 0])), (q1_1, .inl (G.2.1, 20, .inl (fun _ => 0))), (q2, .inr (5, [.int (3 : Int32), .int 0, .int (4 : Int32), .int (9 : Int32), .int 0, .int 0, .int 0, .int 0, .ref q1_2, .ref q2_2, .ref q3_2, .ref q4_2, .ref q5_2, .ref q6_2, .ref q7_2])), (q1_2, .inl (G.2.1, 6, .inl (upd (upd (upd (upd (upd (upd (fun _ => 0) 0 (5 : Int32)) 1 (5 : Int32)) 2 (5 : Int32)) 3 (0 : Int32)) 4 (0 : Int32)) 5 (0 : Int32)))), (q2_2, .inl (G.2.1, 8, .inl (fun _ => 0))), (q3_2, .inl (G.2.1, 8, .inl (fun _ => 0))), (q4_2, .inl (G.2.1, 8, .inl (fun _ => 0))), (q5_2, .inl (G.2.1, 8, .inl (fun _ => 0))), (q6_2, .inl (G.2.1, 8, .inl (fun _ => 0))), (q7_2, .inl (G.2.1, 8, .inl (fun _ => 0))), (q3, .inl (G.2.2.2.1, 2, .inr (.inr (.inr (.inr (fun _ => none)))))), (q4, .inr (4, [.ref q2, .ref q1_4])), (q1_4, .inl (G.2.1, 8, .inl (fun _ => 0))), (q5, .inr (2, [.ref q2, .ref q4, .ref q1_5, .ref q2_5, .ref q3_5, .ref q4_5])), (q1_5, .inl (G.2.1, 66, .inl (fun _ => 0))), (q2_5, .inl (G.2.1, 6, .inl (fun _ => 0))), (q3_5, .inl (G.2.1, 77, .inl (fun _ => 0))), (q4_5, .inl (G.2.1, 66, .inl (fun _ => 0))), (q6, .inr (3, [.ref q2, .ref q5, .ref q1_6, .ref q2_6])), (q1_6, .inl (G.2.1, 70, .inl (fun _ => 0))), (q2_6, .inl (G.2.1, 328, .inl (fun _ => 0))), (q7, .inr (0, [.ref q2, .ref q4, .ref q1_7, .ref q2_7, .ref q3_7, .ref q4_7, .int 0, .int 0, .int 0])), (q1_7, .inl (G.2.1, 462, .inl (fun _ => 0))), (q2_7, .inl (G.2.1, 462, .inl (fun _ => 0))), (q3_7, .inl (G.2.1, 6, .inl (fun _ => 0))), (q4_7, .inl (G.2.1, 6, .inl (fun _ => 0))), (q8, .inl (G.2.1, 6, .inl (fun _ => 0)))]) eX6_init_111 rfl inX6 tyX6 tyX6_ok nmX6 0 rfl rfl 7 (Nat.le_of_ble_eq_true rfl) tw_214 rfl rfl rfl rfl rfl (Nat.le_of_ble_eq_true rfl) rfl ?_
  refine V_aload_n eX6_init_114 0 rfl ?_
  refine V_bipush (v := (6 : Int32)) eX6_init_115 rfl ?_
  refine V_newi (N := 6) eX6_init_117 ta_int (by decide) (by decide +kernel) (Nat.le_of_ble_eq_true rfl) (Nat.le_of_ble_eq_true rfl) (Nat.le_of_ble_eq_true rfl) (fun q9 => ?_)
  refine V_putF (w' := [(h0, .inr (6, [.ref q1, .ref q2, .ref q3, .ref q4, .ref q5, .ref q6, .ref q7, .ref q8, .ref q9])), (q1, .inr (1, [.ref q1_1, .int 0])), (q1_1, .inl (G.2.1, 20, .inl (fun _ => 0))), (q2, .inr (5, [.int (3 : Int32), .int 0, .int (4 : Int32), .int (9 : Int32), .int 0, .int 0, .int 0, .int 0, .ref q1_2, .ref q2_2, .ref q3_2, .ref q4_2, .ref q5_2, .ref q6_2, .ref q7_2])), (q1_2, .inl (G.2.1, 6, .inl (upd (upd (upd (upd (upd (upd (fun _ => 0) 0 (5 : Int32)) 1 (5 : Int32)) 2 (5 : Int32)) 3 (0 : Int32)) 4 (0 : Int32)) 5 (0 : Int32)))), (q2_2, .inl (G.2.1, 8, .inl (fun _ => 0))), (q3_2, .inl (G.2.1, 8, .inl (fun _ => 0))), (q4_2, .inl (G.2.1, 8, .inl (fun _ => 0))), (q5_2, .inl (G.2.1, 8, .inl (fun _ => 0))), (q6_2, .inl (G.2.1, 8, .inl (fun _ => 0))), (q7_2, .inl (G.2.1, 8, .inl (fun _ => 0))), (q3, .inl (G.2.2.2.1, 2, .inr (.inr (.inr (.inr (fun _ => none)))))), (q4, .inr (4, [.ref q2, .ref q1_4])), (q1_4, .inl (G.2.1, 8, .inl (fun _ => 0))), (q5, .inr (2, [.ref q2, .ref q4, .ref q1_5, .ref q2_5, .ref q3_5, .ref q4_5])), (q1_5, .inl (G.2.1, 66, .inl (fun _ => 0))), (q2_5, .inl (G.2.1, 6, .inl (fun _ => 0))), (q3_5, .inl (G.2.1, 77, .inl (fun _ => 0))), (q4_5, .inl (G.2.1, 66, .inl (fun _ => 0))), (q6, .inr (3, [.ref q2, .ref q5, .ref q1_6, .ref q2_6])), (q1_6, .inl (G.2.1, 70, .inl (fun _ => 0))), (q2_6, .inl (G.2.1, 328, .inl (fun _ => 0))), (q7, .inr (0, [.ref q2, .ref q4, .ref q1_7, .ref q2_7, .ref q3_7, .ref q4_7, .int 0, .int 0, .int 0])), (q1_7, .inl (G.2.1, 462, .inl (fun _ => 0))), (q2_7, .inl (G.2.1, 462, .inl (fun _ => 0))), (q3_7, .inl (G.2.1, 6, .inl (fun _ => 0))), (q4_7, .inl (G.2.1, 6, .inl (fun _ => 0))), (q8, .inl (G.2.1, 6, .inl (fun _ => 0))), (q9, .inl (G.2.1, 6, .inl (fun _ => 0)))]) eX6_init_119 rfl inX6 tyX6 tyX6_ok nmX6 0 rfl rfl 8 (Nat.le_of_ble_eq_true rfl) tw_215 rfl rfl rfl rfl rfl (Nat.le_of_ble_eq_true rfl) rfl ?_
  exact V_vret eX6_init_122 rfl ⟨rfl, q1, q1_1, q2, q1_2, q2_2, q3_2, q4_2, q5_2, q6_2, q7_2, q3, q4, q1_4, q5, q1_5, q2_5, q3_5, q4_5, q6, q1_6, q2_6, q7, q1_7, q2_7, q3_7, q4_7, q8, q9, rfl⟩
theorem hdX7_init : yX7_init.cls ≠ "java/lang/invoke/MethodHandle" ∧ yX7_init.cls ≠ "java/lang/invoke/VarHandle" ∧ (parseMethodDescriptor yX7_init.desc).map (fun d => d.parameters.length) = some 0 := by decide +kernel
theorem eX7_init_0 : Dc cX7_init 0 (.aload_n 0) 1 1 := ⟨by decide +kernel, rfl⟩
theorem eX7_init_1 : Dc cX7_init 1 (.invokespecial 1) 3 4 := ⟨by decide +kernel, rfl⟩
theorem eX7_init_4 : Dc cX7_init 4 (.aload_n 0) 1 5 := ⟨by decide +kernel, rfl⟩
theorem eX7_init_5 : Dc cX7_init 5 (.bipush 6) 2 7 := ⟨by decide +kernel, rfl⟩
theorem eX7_init_7 : Dc cX7_init 7 (.newarray .int) 2 9 := ⟨by decide +kernel, rfl⟩
theorem eX7_init_9 : Dc cX7_init 9 (.putfield 7) 3 12 := ⟨by decide +kernel, rfl⟩
theorem eX7_init_12 : Dc cX7_init 12 (.aload_n 0) 1 13 := ⟨by decide +kernel, rfl⟩
theorem eX7_init_13 : Dc cX7_init 13 (.bipush 8) 2 15 := ⟨by decide +kernel, rfl⟩
theorem eX7_init_15 : Dc cX7_init 15 (.newarray .int) 2 17 := ⟨by decide +kernel, rfl⟩
theorem eX7_init_17 : Dc cX7_init 17 (.putfield 13) 3 20 := ⟨by decide +kernel, rfl⟩
theorem eX7_init_20 : Dc cX7_init 20 (.aload_n 0) 1 21 := ⟨by decide +kernel, rfl⟩
theorem eX7_init_21 : Dc cX7_init 21 (.bipush 8) 2 23 := ⟨by decide +kernel, rfl⟩
theorem eX7_init_23 : Dc cX7_init 23 (.newarray .int) 2 25 := ⟨by decide +kernel, rfl⟩
theorem eX7_init_25 : Dc cX7_init 25 (.putfield 16) 3 28 := ⟨by decide +kernel, rfl⟩
theorem eX7_init_28 : Dc cX7_init 28 (.aload_n 0) 1 29 := ⟨by decide +kernel, rfl⟩
theorem eX7_init_29 : Dc cX7_init 29 (.bipush 8) 2 31 := ⟨by decide +kernel, rfl⟩
theorem eX7_init_31 : Dc cX7_init 31 (.newarray .int) 2 33 := ⟨by decide +kernel, rfl⟩
theorem eX7_init_33 : Dc cX7_init 33 (.putfield 19) 3 36 := ⟨by decide +kernel, rfl⟩
theorem eX7_init_36 : Dc cX7_init 36 (.aload_n 0) 1 37 := ⟨by decide +kernel, rfl⟩
theorem eX7_init_37 : Dc cX7_init 37 (.bipush 8) 2 39 := ⟨by decide +kernel, rfl⟩
theorem eX7_init_39 : Dc cX7_init 39 (.newarray .int) 2 41 := ⟨by decide +kernel, rfl⟩
theorem eX7_init_41 : Dc cX7_init 41 (.putfield 22) 3 44 := ⟨by decide +kernel, rfl⟩
theorem eX7_init_44 : Dc cX7_init 44 (.aload_n 0) 1 45 := ⟨by decide +kernel, rfl⟩
theorem eX7_init_45 : Dc cX7_init 45 (.bipush 8) 2 47 := ⟨by decide +kernel, rfl⟩
theorem eX7_init_47 : Dc cX7_init 47 (.newarray .int) 2 49 := ⟨by decide +kernel, rfl⟩
theorem eX7_init_49 : Dc cX7_init 49 (.putfield 25) 3 52 := ⟨by decide +kernel, rfl⟩
theorem eX7_init_52 : Dc cX7_init 52 (.aload_n 0) 1 53 := ⟨by decide +kernel, rfl⟩
theorem eX7_init_53 : Dc cX7_init 53 (.bipush 8) 2 55 := ⟨by decide +kernel, rfl⟩
theorem eX7_init_55 : Dc cX7_init 55 (.newarray .int) 2 57 := ⟨by decide +kernel, rfl⟩
theorem eX7_init_57 : Dc cX7_init 57 (.putfield 28) 3 60 := ⟨by decide +kernel, rfl⟩
theorem eX7_init_60 : Dc cX7_init 60 (.aload_n 0) 1 61 := ⟨by decide +kernel, rfl⟩
theorem eX7_init_61 : Dc cX7_init 61 (.bipush 8) 2 63 := ⟨by decide +kernel, rfl⟩
theorem eX7_init_63 : Dc cX7_init 63 (.newarray .int) 2 65 := ⟨by decide +kernel, rfl⟩
theorem eX7_init_65 : Dc cX7_init 65 (.putfield 31) 3 68 := ⟨by decide +kernel, rfl⟩
theorem eX7_init_68 : Dc cX7_init 68 (.aload_n 0) 1 69 := ⟨by decide +kernel, rfl⟩
theorem eX7_init_69 : Dc cX7_init 69 (.bipush 8) 2 71 := ⟨by decide +kernel, rfl⟩
theorem eX7_init_71 : Dc cX7_init 71 (.newarray .int) 2 73 := ⟨by decide +kernel, rfl⟩
theorem eX7_init_73 : Dc cX7_init 73 (.putfield 34) 3 76 := ⟨by decide +kernel, rfl⟩
theorem eX7_init_76 : Dc cX7_init 76 (.aload_n 0) 1 77 := ⟨by decide +kernel, rfl⟩
theorem eX7_init_77 : Dc cX7_init 77 (.bipush 20) 2 79 := ⟨by decide +kernel, rfl⟩
theorem eX7_init_79 : Dc cX7_init 79 (.newarray .int) 2 81 := ⟨by decide +kernel, rfl⟩
theorem eX7_init_81 : Dc cX7_init 81 (.putfield 37) 3 84 := ⟨by decide +kernel, rfl⟩
theorem eX7_init_84 : Dc cX7_init 84 (.aload_n 0) 1 85 := ⟨by decide +kernel, rfl⟩
theorem eX7_init_85 : Dc cX7_init 85 (.bipush 6) 2 87 := ⟨by decide +kernel, rfl⟩
theorem eX7_init_87 : Dc cX7_init 87 (.newarray .int) 2 89 := ⟨by decide +kernel, rfl⟩
theorem eX7_init_89 : Dc cX7_init 89 (.putfield 40) 3 92 := ⟨by decide +kernel, rfl⟩
theorem eX7_init_92 : Dc cX7_init 92 (.aload_n 0) 1 93 := ⟨by decide +kernel, rfl⟩
theorem eX7_init_93 : Dc cX7_init 93 (.bipush 6) 2 95 := ⟨by decide +kernel, rfl⟩
theorem eX7_init_95 : Dc cX7_init 95 (.newarray .int) 2 97 := ⟨by decide +kernel, rfl⟩
theorem eX7_init_97 : Dc cX7_init 97 (.putfield 43) 3 100 := ⟨by decide +kernel, rfl⟩
theorem eX7_init_100 : Dc cX7_init 100 (.aload_n 0) 1 101 := ⟨by decide +kernel, rfl⟩
theorem eX7_init_101 : Dc cX7_init 101 (.bipush 6) 2 103 := ⟨by decide +kernel, rfl⟩
theorem eX7_init_103 : Dc cX7_init 103 (.newarray .int) 2 105 := ⟨by decide +kernel, rfl⟩
theorem eX7_init_105 : Dc cX7_init 105 (.putfield 46) 3 108 := ⟨by decide +kernel, rfl⟩
theorem eX7_init_108 : Dc cX7_init 108 (.aload_n 0) 1 109 := ⟨by decide +kernel, rfl⟩
theorem eX7_init_109 : Dc cX7_init 109 (.bipush 70) 2 111 := ⟨by decide +kernel, rfl⟩
theorem eX7_init_111 : Dc cX7_init 111 (.newarray .int) 2 113 := ⟨by decide +kernel, rfl⟩
theorem eX7_init_113 : Dc cX7_init 113 (.putfield 49) 3 116 := ⟨by decide +kernel, rfl⟩
theorem eX7_init_116 : Dc cX7_init 116 (.aload_n 0) 1 117 := ⟨by decide +kernel, rfl⟩
theorem eX7_init_117 : Dc cX7_init 117 (.sipush 328) 3 120 := ⟨by decide +kernel, rfl⟩
theorem eX7_init_120 : Dc cX7_init 120 (.newarray .int) 2 122 := ⟨by decide +kernel, rfl⟩
theorem eX7_init_122 : Dc cX7_init 122 (.putfield 52) 3 125 := ⟨by decide +kernel, rfl⟩
theorem eX7_init_125 : Dc cX7_init 125 (.aload_n 0) 1 126 := ⟨by decide +kernel, rfl⟩
theorem eX7_init_126 : Dc cX7_init 126 (.ldc 55) 2 128 := ⟨by decide +kernel, rfl⟩
theorem eX7_init_128 : Dc cX7_init 128 (.newarray .int) 2 130 := ⟨by decide +kernel, rfl⟩
theorem eX7_init_130 : Dc cX7_init 130 (.putfield 56) 3 133 := ⟨by decide +kernel, rfl⟩
theorem eX7_init_133 : Dc cX7_init 133 (.aload_n 0) 1 134 := ⟨by decide +kernel, rfl⟩
theorem eX7_init_134 : Dc cX7_init 134 (.ldc 55) 2 136 := ⟨by decide +kernel, rfl⟩
theorem eX7_init_136 : Dc cX7_init 136 (.newarray .int) 2 138 := ⟨by decide +kernel, rfl⟩
theorem eX7_init_138 : Dc cX7_init 138 (.putfield 59) 3 141 := ⟨by decide +kernel, rfl⟩
theorem eX7_init_141 : Dc cX7_init 141 (.aload_n 0) 1 142 := ⟨by decide +kernel, rfl⟩
theorem eX7_init_142 : Dc cX7_init 142 (.sipush 180) 3 145 := ⟨by decide +kernel, rfl⟩
theorem eX7_init_145 : Dc cX7_init 145 (.newarray .int) 2 147 := ⟨by decide +kernel, rfl⟩
theorem eX7_init_147 : Dc cX7_init 147 (.putfield 62) 3 150 := ⟨by decide +kernel, rfl⟩
theorem eX7_init_150 : Dc cX7_init 150 (.aload_n 0) 1 151 := ⟨by decide +kernel, rfl⟩
theorem eX7_init_151 : Dc cX7_init 151 (.iconst 2) 1 152 := ⟨by decide +kernel, rfl⟩
theorem eX7_init_152 : Dc cX7_init 152 (.newarray .boolean) 2 154 := ⟨by decide +kernel, rfl⟩
theorem eX7_init_154 : Dc cX7_init 154 (.putfield 65) 3 157 := ⟨by decide +kernel, rfl⟩
theorem eX7_init_157 : Dc cX7_init 157 (.aload_n 0) 1 158 := ⟨by decide +kernel, rfl⟩
theorem eX7_init_158 : Dc cX7_init 158 (.iconst 3) 1 159 := ⟨by decide +kernel, rfl⟩
theorem eX7_init_159 : Dc cX7_init 159 (.putfield 69) 3 162 := ⟨by decide +kernel, rfl⟩
theorem eX7_init_162 : Dc cX7_init 162 (.aload_n 0) 1 163 := ⟨by decide +kernel, rfl⟩
theorem eX7_init_163 : Dc cX7_init 163 (.iconst 4) 1 164 := ⟨by decide +kernel, rfl⟩
theorem eX7_init_164 : Dc cX7_init 164 (.putfield 73) 3 167 := ⟨by decide +kernel, rfl⟩
theorem eX7_init_167 : Dc cX7_init 167 (.aload_n 0) 1 168 := ⟨by decide +kernel, rfl⟩
theorem eX7_init_168 : Dc cX7_init 168 (.bipush 9) 2 170 := ⟨by decide +kernel, rfl⟩
theorem eX7_init_170 : Dc cX7_init 170 (.putfield 76) 3 173 := ⟨by decide +kernel, rfl⟩
theorem eX7_init_173 : Dc cX7_init 173 (.iconst 0) 1 174 := ⟨by decide +kernel, rfl⟩
theorem eX7_init_174 : Dc cX7_init 174 (.istore_n 1) 1 175 := ⟨by decide +kernel, rfl⟩
theorem eX7_init_175 : Dc cX7_init 175 (.iload_n 1) 1 176 := ⟨by decide +kernel, rfl⟩
theorem eX7_init_176 : Dc cX7_init 176 (.bipush 6) 2 178 := ⟨by decide +kernel, rfl⟩
theorem eX7_init_178 : Dc cX7_init 178 (.if_icmp .ge 16) 3 181 := ⟨by decide +kernel, rfl⟩
theorem eX7_init_181 : Dc cX7_init 181 (.aload_n 0) 1 182 := ⟨by decide +kernel, rfl⟩
theorem eX7_init_182 : Dc cX7_init 182 (.getfield 7) 3 185 := ⟨by decide +kernel, rfl⟩
theorem eX7_init_185 : Dc cX7_init 185 (.iload_n 1) 1 186 := ⟨by decide +kernel, rfl⟩
theorem eX7_init_186 : Dc cX7_init 186 (.iconst 5) 1 187 := ⟨by decide +kernel, rfl⟩
theorem eX7_init_187 : Dc cX7_init 187 (.iastore) 1 188 := ⟨by decide +kernel, rfl⟩
theorem eX7_init_188 : Dc cX7_init 188 (.iinc 1 1) 3 191 := ⟨by decide +kernel, rfl⟩
theorem eX7_init_191 : Dc cX7_init 191 (.goto (-16)) 3 194 := ⟨by decide +kernel, rfl⟩
theorem eX7_init_194 : Dc cX7_init 194 (.return_) 1 195 := ⟨by decide +kernel, rfl⟩
set_option maxRecDepth 20000 in
theorem ktX7_init (l : Launch) (G : tg_G) (h0 : Nat)  : Mt l G yX7_init cX7_init 2 none ({ frames := 1, cells := 19, slots := 373936, locals := 20 } : Room) [.ref h0] [(h0, .inr (7, [.int 0, .null, .int 0, .int 0, .null, .null, .null, .null, .null, .null, .int 0, .int 0, .null, .null, .int 0, .null, .int 0, .null, .null, .int 0, .int 0, .null, .null, .null, .null, .null, .int 0, .null, .null, .int 0, .int 0]))] (fun v w1 => v = none ∧ ∃ (q1 q2 q3 q4 q5 q6 q7 q8 q9 q10 q11 q12 q13 q14 q15 q16 q17 q18 q19 : Nat), w1 = [(h0, .inr (7, [.int (3 : Int32), .ref q1, .int 0, .int 0, .ref q2, .ref q3, .ref q4, .ref q5, .ref q6, .ref q7, .int (4 : Int32), .int (9 : Int32), .ref q8, .ref q9, .int 0, .ref q10, .int 0, .ref q11, .ref q12, .int 0, .int 0, .ref q13, .ref q14, .ref q15, .ref q16, .ref q17, .int 0, .ref q18, .ref q19, .int 0, .int 0])), (q1, .inl (G.2.1, 6, .inl (upd (upd (upd (upd (upd (upd (fun _ => 0) 0 (5 : Int32)) 1 (5 : Int32)) 2 (5 : Int32)) 3 (5 : Int32)) 4 (5 : Int32)) 5 (5 : Int32)))), (q2, .inl (G.2.1, 8, .inl (fun _ => 0))), (q3, .inl (G.2.1, 8, .inl (fun _ => 0))), (q4, .inl (G.2.1, 8, .inl (fun _ => 0))), (q5, .inl (G.2.1, 8, .inl (fun _ => 0))), (q6, .inl (G.2.1, 8, .inl (fun _ => 0))), (q7, .inl (G.2.1, 8, .inl (fun _ => 0))), (q8, .inl (G.2.1, 8, .inl (fun _ => 0))), (q9, .inl (G.2.1, 8, .inl (fun _ => 0))), (q10, .inl (G.2.1, 20, .inl (fun _ => 0))), (q11, .inl (G.2.1, 6, .inl (fun _ => 0))), (q12, .inl (G.2.1, 6, .inl (fun _ => 0))), (q13, .inl (G.2.1, 6, .inl (fun _ => 0))), (q14, .inl (G.2.1, 70, .inl (fun _ => 0))), (q15, .inl (G.2.1, 328, .inl (fun _ => 0))), (q16, .inl (G.2.1, 186624, .inl (fun _ => 0))), (q17, .inl (G.2.1, 186624, .inl (fun _ => 0))), (q18, .inl (G.2.1, 180, .inl (fun _ => 0))), (q19, .inl (G.2.2.1, 2, .inl (fun _ => 0)))]) := by
  refine Mt_of2 (own := "TramGodModel") (nm := "<init>") rfl rfl rfl (Nat.le_of_ble_eq_true rfl) (lv := [(0, .ref h0)]) rfl ?_
  refine V_aload_n eX7_init_0 0 rfl ?_
  refine V_objInit eX7_init_1 tw_643 tw_18 tc_19 (Nat.le_of_ble_eq_true rfl) (Nat.le_of_ble_eq_true rfl) ?_
  refine V_aload_n eX7_init_4 0 rfl ?_
  refine V_bipush (v := (6 : Int32)) eX7_init_5 rfl ?_
  refine V_newi (N := 6) eX7_init_7 ta_int (by decide) (by decide +kernel) (Nat.le_of_ble_eq_true rfl) (Nat.le_of_ble_eq_true rfl) (Nat.le_of_ble_eq_true rfl) (fun q1 => ?_)
  refine V_putF (w' := [(h0, .inr (7, [.int 0, .ref q1, .int 0, .int 0, .null, .null, .null, .null, .null, .null, .int 0, .int 0, .null, .null, .int 0, .null, .int 0, .null, .null, .int 0, .int 0, .null, .null, .null, .null, .null, .int 0, .null, .null, .int 0, .int 0])), (q1, .inl (G.2.1, 6, .inl (fun _ => 0)))]) eX7_init_9 rfl inX7 tyX7 tyX7_ok nmX7 0 rfl rfl 1 (Nat.le_of_ble_eq_true rfl) tw_646 rfl rfl rfl rfl rfl (Nat.le_of_ble_eq_true rfl) rfl ?_
  refine V_aload_n eX7_init_12 0 rfl ?_
  refine V_bipush (v := (8 : Int32)) eX7_init_13 rfl ?_
  refine V_newi (N := 8) eX7_init_15 ta_int (by decide) (by decide +kernel) (Nat.le_of_ble_eq_true rfl) (Nat.le_of_ble_eq_true rfl) (Nat.le_of_ble_eq_true rfl) (fun q2 => ?_)
  refine V_putF (w' := [(h0, .inr (7, [.int 0, .ref q1, .int 0, .int 0, .ref q2, .null, .null, .null, .null, .null, .int 0, .int 0, .null, .null, .int 0, .null, .int 0, .null, .null, .int 0, .int 0, .null, .null, .null, .null, .null, .int 0, .null, .null, .int 0, .int 0])), (q1, .inl (G.2.1, 6, .inl (fun _ => 0))), (q2, .inl (G.2.1, 8, .inl (fun _ => 0)))]) eX7_init_17 rfl inX7 tyX7 tyX7_ok nmX7 0 rfl rfl 4 (Nat.le_of_ble_eq_true rfl) tw_649 rfl rfl rfl rfl rfl (Nat.le_of_ble_eq_true rfl) rfl ?_
  refine V_aload_n eX7_init_20 0 rfl ?_
  refine V_bipush (v := (8 : Int32)) eX7_init_21 rfl ?_
  refine V_newi (N := 8) eX7_init_23 ta_int (by decide) (by decide +kernel) (Nat.le_of_ble_eq_true rfl) (Nat.le_of_ble_eq_true rfl) (Nat.le_of_ble_eq_true rfl) (fun q3 => ?_)
  refine V_putF (w' := [(h0, .inr (7, [.int 0, .ref q1, .int 0, .int 0, .ref q2, .ref q3, .null, .null, .null, .null, .int 0, .int 0, .null, .null, .int 0, .null, .int 0, .null, .null, .int 0, .int 0, .null, .null, .null, .null, .null, .int 0, .null, .null, .int 0, .int 0])), (q1, .inl (G.2.1, 6, .inl (fun _ => 0))), (q2, .inl (G.2.1, 8, .inl (fun _ => 0))), (q3, .inl (G.2.1, 8, .inl (fun _ => 0)))]) eX7_init_25 rfl inX7 tyX7 tyX7_ok nmX7 0 rfl rfl 5 (Nat.le_of_ble_eq_true rfl) tw_650 rfl rfl rfl rfl rfl (Nat.le_of_ble_eq_true rfl) rfl ?_
  refine V_aload_n eX7_init_28 0 rfl ?_
  refine V_bipush (v := (8 : Int32)) eX7_init_29 rfl ?_
  refine V_newi (N := 8) eX7_init_31 ta_int (by decide) (by decide +kernel) (Nat.le_of_ble_eq_true rfl) (Nat.le_of_ble_eq_true rfl) (Nat.le_of_ble_eq_true rfl) (fun q4 => ?_)
  refine V_putF (w' := [(h0, .inr (7, [.int 0, .ref q1, .int 0, .int 0, .ref q2, .ref q3, .ref q4, .null, .null, .null, .int 0, .int 0, .null, .null, .int 0, .null, .int 0, .null, .null, .int 0, .int 0, .null, .null, .null, .null, .null, .int 0, .null, .null, .int 0, .int 0])), (q1, .inl (G.2.1, 6, .inl (fun _ => 0))), (q2, .inl (G.2.1, 8, .inl (fun _ => 0))), (q3, .inl (G.2.1, 8, .inl (fun _ => 0))), (q4, .inl (G.2.1, 8, .inl (fun _ => 0)))]) eX7_init_33 rfl inX7 tyX7 tyX7_ok nmX7 0 rfl rfl 6 (Nat.le_of_ble_eq_true rfl) tw_651 rfl rfl rfl rfl rfl (Nat.le_of_ble_eq_true rfl) rfl ?_
  refine V_aload_n eX7_init_36 0 rfl ?_
  refine V_bipush (v := (8 : Int32)) eX7_init_37 rfl ?_
  refine V_newi (N := 8) eX7_init_39 ta_int (by decide) (by decide +kernel) (Nat.le_of_ble_eq_true rfl) (Nat.le_of_ble_eq_true rfl) (Nat.le_of_ble_eq_true rfl) (fun q5 => ?_)
  refine V_putF (w' := [(h0, .inr (7, [.int 0, .ref q1, .int 0, .int 0, .ref q2, .ref q3, .ref q4, .ref q5, .null, .null, .int 0, .int 0, .null, .null, .int 0, .null, .int 0, .null, .null, .int 0, .int 0, .null, .null, .null, .null, .null, .int 0, .null, .null, .int 0, .int 0])), (q1, .inl (G.2.1, 6, .inl (fun _ => 0))), (q2, .inl (G.2.1, 8, .inl (fun _ => 0))), (q3, .inl (G.2.1, 8, .inl (fun _ => 0))), (q4, .inl (G.2.1, 8, .inl (fun _ => 0))), (q5, .inl (G.2.1, 8, .inl (fun _ => 0)))]) eX7_init_41 rfl inX7 tyX7 tyX7_ok nmX7 0 rfl rfl 7 (Nat.le_of_ble_eq_true rfl) tw_652 rfl rfl rfl rfl rfl (Nat.le_of_ble_eq_true rfl) rfl ?_
  refine V_aload_n eX7_init_44 0 rfl ?_
  refine V_bipush (v := (8 : Int32)) eX7_init_45 rfl ?_
  refine V_newi (N := 8) eX7_init_47 ta_int (by decide) (by decide +kernel) (Nat.le_of_ble_eq_true rfl) (Nat.le_of_ble_eq_true rfl) (Nat.le_of_ble_eq_true rfl) (fun q6 => ?_)
  refine V_putF (w' := [(h0, .inr (7, [.int 0, .ref q1, .int 0, .int 0, .ref q2, .ref q3, .ref q4, .ref q5, .ref q6, .null, .int 0, .int 0, .null, .null, .int 0, .null, .int 0, .null, .null, .int 0, .int 0, .null, .null, .null, .null, .null, .int 0, .null, .null, .int 0, .int 0])), (q1, .inl (G.2.1, 6, .inl (fun _ => 0))), (q2, .inl (G.2.1, 8, .inl (fun _ => 0))), (q3, .inl (G.2.1, 8, .inl (fun _ => 0))), (q4, .inl (G.2.1, 8, .inl (fun _ => 0))), (q5, .inl (G.2.1, 8, .inl (fun _ => 0))), (q6, .inl (G.2.1, 8, .inl (fun _ => 0)))]) eX7_init_49 rfl inX7 tyX7 tyX7_ok nmX7 0 rfl rfl 8 (Nat.le_of_ble_eq_true rfl) tw_653 rfl rfl rfl rfl rfl (Nat.le_of_ble_eq_true rfl) rfl ?_
  refine V_aload_n eX7_init_52 0 rfl ?_
  refine V_bipush (v := (8 : Int32)) eX7_init_53 rfl ?_
  refine V_newi (N := 8) eX7_init_55 ta_int (by decide) (by decide +kernel) (Nat.le_of_ble_eq_true rfl) (Nat.le_of_ble_eq_true rfl) (Nat.le_of_ble_eq_true rfl) (fun q7 => ?_)
  refine V_putF (w' := [(h0, .inr (7, [.int 0, .ref q1, .int 0, .int 0, .ref q2, .ref q3, .ref q4, .ref q5, .ref q6, .ref q7, .int 0, .int 0, .null, .null, .int 0, .null, .int 0, .null, .null, .int 0, .int 0, .null, .null, .null, .null, .null, .int 0, .null, .null, .int 0, .int 0])), (q1, .inl (G.2.1, 6, .inl (fun _ => 0))), (q2, .inl (G.2.1, 8, .inl (fun _ => 0))), (q3, .inl (G.2.1, 8, .inl (fun _ => 0))), (q4, .inl (G.2.1, 8, .inl (fun _ => 0))), (q5, .inl (G.2.1, 8, .inl (fun _ => 0))), (q6, .inl (G.2.1, 8, .inl (fun _ => 0))), (q7, .inl (G.2.1, 8, .inl (fun _ => 0)))]) eX7_init_57 rfl inX7 tyX7 tyX7_ok nmX7 0 rfl rfl 9 (Nat.le_of_ble_eq_true rfl) tw_654 rfl rfl rfl rfl rfl (Nat.le_of_ble_eq_true rfl) rfl ?_
  refine V_aload_n eX7_init_60 0 rfl ?_
  refine V_bipush (v := (8 : Int32)) eX7_init_61 rfl ?_
  refine V_newi (N := 8) eX7_init_63 ta_int (by decide) (by decide +kernel) (Nat.le_of_ble_eq_true rfl) (Nat.le_of_ble_eq_true rfl) (Nat.le_of_ble_eq_true rfl) (fun q8 => ?_)
  refine V_putF (w' := [(h0, .inr (7, [.int 0, .ref q1, .int 0, .int 0, .ref q2, .ref q3, .ref q4, .ref q5, .ref q6, .ref q7, .int 0, .int 0, .ref q8, .null, .int 0, .null, .int 0, .null, .null, .int 0, .int 0, .null, .null, .null, .null, .null, .int 0, .null, .null, .int 0, .int 0])), (q1, .inl (G.2.1, 6, .inl (fun _ => 0))), (q2, .inl (G.2.1, 8, .inl (fun _ => 0))), (q3, .inl (G.2.1, 8, .inl (fun _ => 0))), (q4, .inl (G.2.1, 8, .inl (fun _ => 0))), (q5, .inl (G.2.1, 8, .inl (fun _ => 0))), (q6, .inl (G.2.1, 8, .inl (fun _ => 0))), (q7, .inl (G.2.1, 8, .inl (fun _ => 0))), (q8, .inl (G.2.1, 8, .inl (fun _ => 0)))]) eX7_init_65 rfl inX7 tyX7 tyX7_ok nmX7 0 rfl rfl 12 (Nat.le_of_ble_eq_true rfl) tw_657 rfl rfl rfl rfl rfl (Nat.le_of_ble_eq_true rfl) rfl ?_
  refine V_aload_n eX7_init_68 0 rfl ?_
  refine V_bipush (v := (8 : Int32)) eX7_init_69 rfl ?_
  refine V_newi (N := 8) eX7_init_71 ta_int (by decide) (by decide +kernel) (Nat.le_of_ble_eq_true rfl) (Nat.le_of_ble_eq_true rfl) (Nat.le_of_ble_eq_true rfl) (fun q9 => ?_)
  refine V_putF (w' := [(h0, .inr (7, [.int 0, .ref q1, .int 0, .int 0, .ref q2, .ref q3, .ref q4, .ref q5, .ref q6, .ref q7, .int 0, .int 0, .ref q8, .ref q9, .int 0, .null, .int 0, .null, .null, .int 0, .int 0, .null, .null, .null, .null, .null, .int 0, .null, .null, .int 0, .int 0])), (q1, .inl (G.2.1, 6, .inl (fun _ => 0))), (q2, .inl (G.2.1, 8, .inl (fun _ => 0))), (q3, .inl (G.2.1, 8, .inl (fun _ => 0))), (q4, .inl (G.2.1, 8, .inl (fun _ => 0))), (q5, .inl (G.2.1, 8, .inl (fun _ => 0))), (q6, .inl (G.2.1, 8, .inl (fun _ => 0))), (q7, .inl (G.2.1, 8, .inl (fun _ => 0))), (q8, .inl (G.2.1, 8, .inl (fun _ => 0))), (q9, .inl (G.2.1, 8, .inl (fun _ => 0)))]) eX7_init_73 rfl inX7 tyX7 tyX7_ok nmX7 0 rfl rfl 13 (Nat.le_of_ble_eq_true rfl) tw_658 rfl rfl rfl rfl rfl (Nat.le_of_ble_eq_true rfl) rfl ?_
  refine V_aload_n eX7_init_76 0 rfl ?_
  refine V_bipush (v := (20 : Int32)) eX7_init_77 rfl ?_
  refine V_newi (N := 20) eX7_init_79 ta_int (by decide) (by decide +kernel) (Nat.le_of_ble_eq_true rfl) (Nat.le_of_ble_eq_true rfl) (Nat.le_of_ble_eq_true rfl) (fun q10 => ?_)
  refine V_putF (w' := [(h0, .inr (7, [.int 0, .ref q1, .int 0, .int 0, .ref q2, .ref q3, .ref q4, .ref q5, .ref q6, .ref q7, .int 0, .int 0, .ref q8, .ref q9, .int 0, .ref q10, .int 0, .null, .null, .int 0, .int 0, .null, .null, .null, .null, .null, .int 0, .null, .null, .int 0, .int 0])), (q1, .inl (G.2.1, 6, .inl (fun _ => 0))), (q2, .inl (G.2.1, 8, .inl (fun _ => 0))), (q3, .inl (G.2.1, 8, .inl (fun _ => 0))), (q4, .inl (G.2.1, 8, .inl (fun _ => 0))), (q5, .inl (G.2.1, 8, .inl (fun _ => 0))), (q6, .inl (G.2.1, 8, .inl (fun _ => 0))), (q7, .inl (G.2.1, 8, .inl (fun _ => 0))), (q8, .inl (G.2.1, 8, .inl (fun _ => 0))), (q9, .inl (G.2.1, 8, .inl (fun _ => 0))), (q10, .inl (G.2.1, 20, .inl (fun _ => 0)))]) eX7_init_81 rfl inX7 tyX7 tyX7_ok nmX7 0 rfl rfl 15 (Nat.le_of_ble_eq_true rfl) tw_660 rfl rfl rfl rfl rfl (Nat.le_of_ble_eq_true rfl) rfl ?_
  refine V_aload_n eX7_init_84 0 rfl ?_
  refine V_bipush (v := (6 : Int32)) eX7_init_85 rfl ?_
  refine V_newi (N := 6) eX7_init_87 ta_int (by decide) (by decide +kernel) (Nat.le_of_ble_eq_true rfl) (Nat.le_of_ble_eq_true rfl) (Nat.le_of_ble_eq_true rfl) (fun q11 => ?_)
  refine V_putF (w' := [(h0, .inr (7, [.int 0, .ref q1, .int 0, .int 0, .ref q2, .ref q3, .ref q4, .ref q5, .ref q6, .ref q7, .int 0, .int 0, .ref q8, .ref q9, .int 0, .ref q10, .int 0, .ref q11, .null, .int 0, .int 0, .null, .null, .null, .null, .null, .int 0, .null, .null, .int 0, .int 0])), (q1, .inl (G.2.1, 6, .inl (fun _ => 0))), (q2, .inl (G.2.1, 8, .inl (fun _ => 0))), (q3, .inl (G.2.1, 8, .inl (fun _ => 0))), (q4, .inl (G.2.1, 8, .inl (fun _ => 0))), (q5, .inl (G.2.1, 8, .inl (fun _ => 0))), (q6, .inl (G.2.1, 8, .inl (fun _ => 0))), (q7, .inl (G.2.1, 8, .inl (fun _ => 0))), (q8, .inl (G.2.1, 8, .inl (fun _ => 0))), (q9, .inl (G.2.1, 8, .inl (fun _ => 0))), (q10, .inl (G.2.1, 20, .inl (fun _ => 0))), (q11, .inl (G.2.1, 6, .inl (fun _ => 0)))]) eX7_init_89 rfl inX7 tyX7 tyX7_ok nmX7 0 rfl rfl 17 (Nat.le_of_ble_eq_true rfl) tw_662 rfl rfl rfl rfl rfl (Nat.le_of_ble_eq_true rfl) rfl ?_
  refine V_aload_n eX7_init_92 0 rfl ?_
  refine V_bipush (v := (6 : Int32)) eX7_init_93 rfl ?_
  refine V_newi (N := 6) eX7_init_95 ta_int (by decide) (by decide +kernel) (Nat.le_of_ble_eq_true rfl) (Nat.le_of_ble_eq_true rfl) (Nat.le_of_ble_eq_true rfl) (fun q12 => ?_)
  refine V_putF (w' := [(h0, .inr (7, [.int 0, .ref q1, .int 0, .int 0, .ref q2, .ref q3, .ref q4, .ref q5, .ref q6, .ref q7, .int 0, .int 0, .ref q8, .ref q9, .int 0, .ref q10, .int 0, .ref q11, .ref q12, .int 0, .int 0, .null, .null, .null, .null, .null, .int 0, .null, .null, .int 0, .int 0])), (q1, .inl (G.2.1, 6, .inl (fun _ => 0))), (q2, .inl (G.2.1, 8, .inl (fun _ => 0))), (q3, .inl (G.2.1, 8, .inl (fun _ => 0))), (q4, .inl (G.2.1, 8, .inl (fun _ => 0))), (q5, .inl (G.2.1, 8, .inl (fun _ => 0))), (q6, .inl (G.2.1, 8, .inl (fun _ => 0))), (q7, .inl (G.2.1, 8, .inl (fun _ => 0))), (q8, .inl (G.2.1, 8, .inl (fun _ => 0))), (q9, .inl (G.2.1, 8, .inl (fun _ => 0))), (q10, .inl (G.2.1, 20, .inl (fun _ => 0))), (q11, .inl (G.2.1, 6, .inl (fun _ => 0))), (q12, .inl (G.2.1, 6, .inl (fun _ => 0)))]) eX7_init_97 rfl inX7 tyX7 tyX7_ok nmX7 0 rfl rfl 18 (Nat.le_of_ble_eq_true rfl) tw_663 rfl rfl rfl rfl rfl (Nat.le_of_ble_eq_true rfl) rfl ?_
  refine V_aload_n eX7_init_100 0 rfl ?_
  refine V_bipush (v := (6 : Int32)) eX7_init_101 rfl ?_
  refine V_newi (N := 6) eX7_init_103 ta_int (by decide) (by decide +kernel) (Nat.le_of_ble_eq_true rfl) (Nat.le_of_ble_eq_true rfl) (Nat.le_of_ble_eq_true rfl) (fun q13 => ?_)
  refine V_putF (w' := [(h0, .inr (7, [.int 0, .ref q1, .int 0, .int 0, .ref q2, .ref q3, .ref q4, .ref q5, .ref q6, .ref q7, .int 0, .int 0, .ref q8, .ref q9, .int 0, .ref q10, .int 0, .ref q11, .ref q12, .int 0, .int 0, .ref q13, .null, .null, .null, .null, .int 0, .null, .null, .int 0, .int 0])), (q1, .inl (G.2.1, 6, .inl (fun _ => 0))), (q2, .inl (G.2.1, 8, .inl (fun _ => 0))), (q3, .inl (G.2.1, 8, .inl (fun _ => 0))), (q4, .inl (G.2.1, 8, .inl (fun _ => 0))), (q5, .inl (G.2.1, 8, .inl (fun _ => 0))), (q6, .inl (G.2.1, 8, .inl (fun _ => 0))), (q7, .inl (G.2.1, 8, .inl (fun _ => 0))), (q8, .inl (G.2.1, 8, .inl (fun _ => 0))), (q9, .inl (G.2.1, 8, .inl (fun _ => 0))), (q10, .inl (G.2.1, 20, .inl (fun _ => 0))), (q11, .inl (G.2.1, 6, .inl (fun _ => 0))), (q12, .inl (G.2.1, 6, .inl (fun _ => 0))), (q13, .inl (G.2.1, 6, .inl (fun _ => 0)))]) eX7_init_105 rfl inX7 tyX7 tyX7_ok nmX7 0 rfl rfl 21 (Nat.le_of_ble_eq_true rfl) tw_666 rfl rfl rfl rfl rfl (Nat.le_of_ble_eq_true rfl) rfl ?_
  refine V_aload_n eX7_init_108 0 rfl ?_
  refine V_bipush (v := (70 : Int32)) eX7_init_109 rfl ?_
  refine V_newi (N := 70) eX7_init_111 ta_int (by decide) (by decide +kernel) (Nat.le_of_ble_eq_true rfl) (Nat.le_of_ble_eq_true rfl) (Nat.le_of_ble_eq_true rfl) (fun q14 => ?_)
  refine V_putF (w' := [(h0, .inr (7, [.int 0, .ref q1, .int 0, .int 0, .ref q2, .ref q3, .ref q4, .ref q5, .ref q6, .ref q7, .int 0, .int 0, .ref q8, .ref q9, .int 0, .ref q10, .int 0, .ref q11, .ref q12, .int 0, .int 0, .ref q13, .ref q14, .null, .null, .null, .int 0, .null, .null, .int 0, .int 0])), (q1, .inl (G.2.1, 6, .inl (fun _ => 0))), (q2, .inl (G.2.1, 8, .inl (fun _ => 0))), (q3, .inl (G.2.1, 8, .inl (fun _ => 0))), (q4, .inl (G.2.1, 8, .inl (fun _ => 0))), (q5, .inl (G.2.1, 8, .inl (fun _ => 0))), (q6, .inl (G.2.1, 8, .inl (fun _ => 0))), (q7, .inl (G.2.1, 8, .inl (fun _ => 0))), (q8, .inl (G.2.1, 8, .inl (fun _ => 0))), (q9, .inl (G.2.1, 8, .inl (fun _ => 0))), (q10, .inl (G.2.1, 20, .inl (fun _ => 0))), (q11, .inl (G.2.1, 6, .inl (fun _ => 0))), (q12, .inl (G.2.1, 6, .inl (fun _ => 0))), (q13, .inl (G.2.1, 6, .inl (fun _ => 0))), (q14, .inl (G.2.1, 70, .inl (fun _ => 0)))]) eX7_init_113 rfl inX7 tyX7 tyX7_ok nmX7 0 rfl rfl 22 (Nat.le_of_ble_eq_true rfl) tw_667 rfl rfl rfl rfl rfl (Nat.le_of_ble_eq_true rfl) rfl ?_
  refine V_aload_n eX7_init_116 0 rfl ?_
  refine V_sipush (v := (328 : Int32)) eX7_init_117 rfl ?_
  refine V_newi (N := 328) eX7_init_120 ta_int (by decide) (by decide +kernel) (Nat.le_of_ble_eq_true rfl) (Nat.le_of_ble_eq_true rfl) (Nat.le_of_ble_eq_true rfl) (fun q15 => ?_)
  refine V_putF (w' := [(h0, .inr (7, [.int 0, .ref q1, .int 0, .int 0, .ref q2, .ref q3, .ref q4, .ref q5, .ref q6, .ref q7, .int 0, .int 0, .ref q8, .ref q9, .int 0, .ref q10, .int 0, .ref q11, .ref q12, .int 0, .int 0, .ref q13, .ref q14, .ref q15, .null, .null, .int 0, .null, .null, .int 0, .int 0])), (q1, .inl (G.2.1, 6, .inl (fun _ => 0))), (q2, .inl (G.2.1, 8, .inl (fun _ => 0))), (q3, .inl (G.2.1, 8, .inl (fun _ => 0))), (q4, .inl (G.2.1, 8, .inl (fun _ => 0))), (q5, .inl (G.2.1, 8, .inl (fun _ => 0))), (q6, .inl (G.2.1, 8, .inl (fun _ => 0))), (q7, .inl (G.2.1, 8, .inl (fun _ => 0))), (q8, .inl (G.2.1, 8, .inl (fun _ => 0))), (q9, .inl (G.2.1, 8, .inl (fun _ => 0))), (q10, .inl (G.2.1, 20, .inl (fun _ => 0))), (q11, .inl (G.2.1, 6, .inl (fun _ => 0))), (q12, .inl (G.2.1, 6, .inl (fun _ => 0))), (q13, .inl (G.2.1, 6, .inl (fun _ => 0))), (q14, .inl (G.2.1, 70, .inl (fun _ => 0))), (q15, .inl (G.2.1, 328, .inl (fun _ => 0)))]) eX7_init_122 rfl inX7 tyX7 tyX7_ok nmX7 0 rfl rfl 23 (Nat.le_of_ble_eq_true rfl) tw_668 rfl rfl rfl rfl rfl (Nat.le_of_ble_eq_true rfl) rfl ?_
  refine V_aload_n eX7_init_125 0 rfl ?_
  refine V_ldc eX7_init_126 tw_644 ?_
  refine V_newi (N := 186624) eX7_init_128 ta_int (by decide) (by decide +kernel) (Nat.le_of_ble_eq_true rfl) (Nat.le_of_ble_eq_true rfl) (Nat.le_of_ble_eq_true rfl) (fun q16 => ?_)
  refine V_putF (w' := [(h0, .inr (7, [.int 0, .ref q1, .int 0, .int 0, .ref q2, .ref q3, .ref q4, .ref q5, .ref q6, .ref q7, .int 0, .int 0, .ref q8, .ref q9, .int 0, .ref q10, .int 0, .ref q11, .ref q12, .int 0, .int 0, .ref q13, .ref q14, .ref q15, .ref q16, .null, .int 0, .null, .null, .int 0, .int 0])), (q1, .inl (G.2.1, 6, .inl (fun _ => 0))), (q2, .inl (G.2.1, 8, .inl (fun _ => 0))), (q3, .inl (G.2.1, 8, .inl (fun _ => 0))), (q4, .inl (G.2.1, 8, .inl (fun _ => 0))), (q5, .inl (G.2.1, 8, .inl (fun _ => 0))), (q6, .inl (G.2.1, 8, .inl (fun _ => 0))), (q7, .inl (G.2.1, 8, .inl (fun _ => 0))), (q8, .inl (G.2.1, 8, .inl (fun _ => 0))), (q9, .inl (G.2.1, 8, .inl (fun _ => 0))), (q10, .inl (G.2.1, 20, .inl (fun _ => 0))), (q11, .inl (G.2.1, 6, .inl (fun _ => 0))), (q12, .inl (G.2.1, 6, .inl (fun _ => 0))), (q13, .inl (G.2.1, 6, .inl (fun _ => 0))), (q14, .inl (G.2.1, 70, .inl (fun _ => 0))), (q15, .inl (G.2.1, 328, .inl (fun _ => 0))), (q16, .inl (G.2.1, 186624, .inl (fun _ => 0)))]) eX7_init_130 rfl inX7 tyX7 tyX7_ok nmX7 0 rfl rfl 24 (Nat.le_of_ble_eq_true rfl) tw_669 rfl rfl rfl rfl rfl (Nat.le_of_ble_eq_true rfl) rfl ?_
  refine V_aload_n eX7_init_133 0 rfl ?_
  refine V_ldc eX7_init_134 tw_644 ?_
  refine V_newi (N := 186624) eX7_init_136 ta_int (by decide) (by decide +kernel) (Nat.le_of_ble_eq_true rfl) (Nat.le_of_ble_eq_true rfl) (Nat.le_of_ble_eq_true rfl) (fun q17 => ?_)
  refine V_putF (w' := [(h0, .inr (7, [.int 0, .ref q1, .int 0, .int 0, .ref q2, .ref q3, .ref q4, .ref q5, .ref q6, .ref q7, .int 0, .int 0, .ref q8, .ref q9, .int 0, .ref q10, .int 0, .ref q11, .ref q12, .int 0, .int 0, .ref q13, .ref q14, .ref q15, .ref q16, .ref q17, .int 0, .null, .null, .int 0, .int 0])), (q1, .inl (G.2.1, 6, .inl (fun _ => 0))), (q2, .inl (G.2.1, 8, .inl (fun _ => 0))), (q3, .inl (G.2.1, 8, .inl (fun _ => 0))), (q4, .inl (G.2.1, 8, .inl (fun _ => 0))), (q5, .inl (G.2.1, 8, .inl (fun _ => 0))), (q6, .inl (G.2.1, 8, .inl (fun _ => 0))), (q7, .inl (G.2.1, 8, .inl (fun _ => 0))), (q8, .inl (G.2.1, 8, .inl (fun _ => 0))), (q9, .inl (G.2.1, 8, .inl (fun _ => 0))), (q10, .inl (G.2.1, 20, .inl (fun _ => 0))), (q11, .inl (G.2.1, 6, .inl (fun _ => 0))), (q12, .inl (G.2.1, 6, .inl (fun _ => 0))), (q13, .inl (G.2.1, 6, .inl (fun _ => 0))), (q14, .inl (G.2.1, 70, .inl (fun _ => 0))), (q15, .inl (G.2.1, 328, .inl (fun _ => 0))), (q16, .inl (G.2.1, 186624, .inl (fun _ => 0))), (q17, .inl (G.2.1, 186624, .inl (fun _ => 0)))]) eX7_init_138 rfl inX7 tyX7 tyX7_ok nmX7 0 rfl rfl 25 (Nat.le_of_ble_eq_true rfl) tw_670 rfl rfl rfl rfl rfl (Nat.le_of_ble_eq_true rfl) rfl ?_
  refine V_aload_n eX7_init_141 0 rfl ?_
  refine V_sipush (v := (180 : Int32)) eX7_init_142 rfl ?_
  refine V_newi (N := 180) eX7_init_145 ta_int (by decide) (by decide +kernel) (Nat.le_of_ble_eq_true rfl) (Nat.le_of_ble_eq_true rfl) (Nat.le_of_ble_eq_true rfl) (fun q18 => ?_)
  refine V_putF (w' := [(h0, .inr (7, [.int 0, .ref q1, .int 0, .int 0, .ref q2, .ref q3, .ref q4, .ref q5, .ref q6, .ref q7, .int 0, .int 0, .ref q8, .ref q9, .int 0, .ref q10, .int 0, .ref q11, .ref q12, .int 0, .int 0, .ref q13, .ref q14, .ref q15, .ref q16, .ref q17, .int 0, .ref q18, .null, .int 0, .int 0])), (q1, .inl (G.2.1, 6, .inl (fun _ => 0))), (q2, .inl (G.2.1, 8, .inl (fun _ => 0))), (q3, .inl (G.2.1, 8, .inl (fun _ => 0))), (q4, .inl (G.2.1, 8, .inl (fun _ => 0))), (q5, .inl (G.2.1, 8, .inl (fun _ => 0))), (q6, .inl (G.2.1, 8, .inl (fun _ => 0))), (q7, .inl (G.2.1, 8, .inl (fun _ => 0))), (q8, .inl (G.2.1, 8, .inl (fun _ => 0))), (q9, .inl (G.2.1, 8, .inl (fun _ => 0))), (q10, .inl (G.2.1, 20, .inl (fun _ => 0))), (q11, .inl (G.2.1, 6, .inl (fun _ => 0))), (q12, .inl (G.2.1, 6, .inl (fun _ => 0))), (q13, .inl (G.2.1, 6, .inl (fun _ => 0))), (q14, .inl (G.2.1, 70, .inl (fun _ => 0))), (q15, .inl (G.2.1, 328, .inl (fun _ => 0))), (q16, .inl (G.2.1, 186624, .inl (fun _ => 0))), (q17, .inl (G.2.1, 186624, .inl (fun _ => 0))), (q18, .inl (G.2.1, 180, .inl (fun _ => 0)))]) eX7_init_147 rfl inX7 tyX7 tyX7_ok nmX7 0 rfl rfl 27 (Nat.le_of_ble_eq_true rfl) tw_672 rfl rfl rfl rfl rfl (Nat.le_of_ble_eq_true rfl) rfl ?_
  refine V_aload_n eX7_init_150 0 rfl ?_
  refine V_iconst (v := (2 : Int32)) eX7_init_151 rfl ?_
  refine V_newz (N := 2) eX7_init_152 ta_bool (by decide) (by decide +kernel) (Nat.le_of_ble_eq_true rfl) (Nat.le_of_ble_eq_true rfl) (Nat.le_of_ble_eq_true rfl) (fun q19 => ?_)
  refine V_putF (w' := [(h0, .inr (7, [.int 0, .ref q1, .int 0, .int 0, .ref q2, .ref q3, .ref q4, .ref q5, .ref q6, .ref q7, .int 0, .int 0, .ref q8, .ref q9, .int 0, .ref q10, .int 0, .ref q11, .ref q12, .int 0, .int 0, .ref q13, .ref q14, .ref q15, .ref q16, .ref q17, .int 0, .ref q18, .ref q19, .int 0, .int 0])), (q1, .inl (G.2.1, 6, .inl (fun _ => 0))), (q2, .inl (G.2.1, 8, .inl (fun _ => 0))), (q3, .inl (G.2.1, 8, .inl (fun _ => 0))), (q4, .inl (G.2.1, 8, .inl (fun _ => 0))), (q5, .inl (G.2.1, 8, .inl (fun _ => 0))), (q6, .inl (G.2.1, 8, .inl (fun _ => 0))), (q7, .inl (G.2.1, 8, .inl (fun _ => 0))), (q8, .inl (G.2.1, 8, .inl (fun _ => 0))), (q9, .inl (G.2.1, 8, .inl (fun _ => 0))), (q10, .inl (G.2.1, 20, .inl (fun _ => 0))), (q11, .inl (G.2.1, 6, .inl (fun _ => 0))), (q12, .inl (G.2.1, 6, .inl (fun _ => 0))), (q13, .inl (G.2.1, 6, .inl (fun _ => 0))), (q14, .inl (G.2.1, 70, .inl (fun _ => 0))), (q15, .inl (G.2.1, 328, .inl (fun _ => 0))), (q16, .inl (G.2.1, 186624, .inl (fun _ => 0))), (q17, .inl (G.2.1, 186624, .inl (fun _ => 0))), (q18, .inl (G.2.1, 180, .inl (fun _ => 0))), (q19, .inl (G.2.2.1, 2, .inl (fun _ => 0)))]) eX7_init_154 rfl inX7 tyX7 tyX7_ok nmX7 0 rfl rfl 28 (Nat.le_of_ble_eq_true rfl) tw_673 rfl rfl rfl rfl rfl (Nat.le_of_ble_eq_true rfl) rfl ?_
  refine V_aload_n eX7_init_157 0 rfl ?_
  refine V_iconst (v := (3 : Int32)) eX7_init_158 rfl ?_
  refine V_put (w' := [(h0, .inr (7, [.int (3 : Int32), .ref q1, .int 0, .int 0, .ref q2, .ref q3, .ref q4, .ref q5, .ref q6, .ref q7, .int 0, .int 0, .ref q8, .ref q9, .int 0, .ref q10, .int 0, .ref q11, .ref q12, .int 0, .int 0, .ref q13, .ref q14, .ref q15, .ref q16, .ref q17, .int 0, .ref q18, .ref q19, .int 0, .int 0])), (q1, .inl (G.2.1, 6, .inl (fun _ => 0))), (q2, .inl (G.2.1, 8, .inl (fun _ => 0))), (q3, .inl (G.2.1, 8, .inl (fun _ => 0))), (q4, .inl (G.2.1, 8, .inl (fun _ => 0))), (q5, .inl (G.2.1, 8, .inl (fun _ => 0))), (q6, .inl (G.2.1, 8, .inl (fun _ => 0))), (q7, .inl (G.2.1, 8, .inl (fun _ => 0))), (q8, .inl (G.2.1, 8, .inl (fun _ => 0))), (q9, .inl (G.2.1, 8, .inl (fun _ => 0))), (q10, .inl (G.2.1, 20, .inl (fun _ => 0))), (q11, .inl (G.2.1, 6, .inl (fun _ => 0))), (q12, .inl (G.2.1, 6, .inl (fun _ => 0))), (q13, .inl (G.2.1, 6, .inl (fun _ => 0))), (q14, .inl (G.2.1, 70, .inl (fun _ => 0))), (q15, .inl (G.2.1, 328, .inl (fun _ => 0))), (q16, .inl (G.2.1, 186624, .inl (fun _ => 0))), (q17, .inl (G.2.1, 186624, .inl (fun _ => 0))), (q18, .inl (G.2.1, 180, .inl (fun _ => 0))), (q19, .inl (G.2.2.1, 2, .inl (fun _ => 0)))]) eX7_init_159 inX7 tyX7 tyX7_ok nmX7 0 rfl rfl 0 (Nat.le_of_ble_eq_true rfl) tw_645 rfl rfl rfl rfl (Nat.le_of_ble_eq_true rfl) rfl ?_
  refine V_aload_n eX7_init_162 0 rfl ?_
  refine V_iconst (v := (4 : Int32)) eX7_init_163 rfl ?_
  refine V_put (w' := [(h0, .inr (7, [.int (3 : Int32), .ref q1, .int 0, .int 0, .ref q2, .ref q3, .ref q4, .ref q5, .ref q6, .ref q7, .int (4 : Int32), .int 0, .ref q8, .ref q9, .int 0, .ref q10, .int 0, .ref q11, .ref q12, .int 0, .int 0, .ref q13, .ref q14, .ref q15, .ref q16, .ref q17, .int 0, .ref q18, .ref q19, .int 0, .int 0])), (q1, .inl (G.2.1, 6, .inl (fun _ => 0))), (q2, .inl (G.2.1, 8, .inl (fun _ => 0))), (q3, .inl (G.2.1, 8, .inl (fun _ => 0))), (q4, .inl (G.2.1, 8, .inl (fun _ => 0))), (q5, .inl (G.2.1, 8, .inl (fun _ => 0))), (q6, .inl (G.2.1, 8, .inl (fun _ => 0))), (q7, .inl (G.2.1, 8, .inl (fun _ => 0))), (q8, .inl (G.2.1, 8, .inl (fun _ => 0))), (q9, .inl (G.2.1, 8, .inl (fun _ => 0))), (q10, .inl (G.2.1, 20, .inl (fun _ => 0))), (q11, .inl (G.2.1, 6, .inl (fun _ => 0))), (q12, .inl (G.2.1, 6, .inl (fun _ => 0))), (q13, .inl (G.2.1, 6, .inl (fun _ => 0))), (q14, .inl (G.2.1, 70, .inl (fun _ => 0))), (q15, .inl (G.2.1, 328, .inl (fun _ => 0))), (q16, .inl (G.2.1, 186624, .inl (fun _ => 0))), (q17, .inl (G.2.1, 186624, .inl (fun _ => 0))), (q18, .inl (G.2.1, 180, .inl (fun _ => 0))), (q19, .inl (G.2.2.1, 2, .inl (fun _ => 0)))]) eX7_init_164 inX7 tyX7 tyX7_ok nmX7 0 rfl rfl 10 (Nat.le_of_ble_eq_true rfl) tw_655 rfl rfl rfl rfl (Nat.le_of_ble_eq_true rfl) rfl ?_
  refine V_aload_n eX7_init_167 0 rfl ?_
  refine V_bipush (v := (9 : Int32)) eX7_init_168 rfl ?_
  refine V_put (w' := [(h0, .inr (7, [.int (3 : Int32), .ref q1, .int 0, .int 0, .ref q2, .ref q3, .ref q4, .ref q5, .ref q6, .ref q7, .int (4 : Int32), .int (9 : Int32), .ref q8, .ref q9, .int 0, .ref q10, .int 0, .ref q11, .ref q12, .int 0, .int 0, .ref q13, .ref q14, .ref q15, .ref q16, .ref q17, .int 0, .ref q18, .ref q19, .int 0, .int 0])), (q1, .inl (G.2.1, 6, .inl (fun _ => 0))), (q2, .inl (G.2.1, 8, .inl (fun _ => 0))), (q3, .inl (G.2.1, 8, .inl (fun _ => 0))), (q4, .inl (G.2.1, 8, .inl (fun _ => 0))), (q5, .inl (G.2.1, 8, .inl (fun _ => 0))), (q6, .inl (G.2.1, 8, .inl (fun _ => 0))), (q7, .inl (G.2.1, 8, .inl (fun _ => 0))), (q8, .inl (G.2.1, 8, .inl (fun _ => 0))), (q9, .inl (G.2.1, 8, .inl (fun _ => 0))), (q10, .inl (G.2.1, 20, .inl (fun _ => 0))), (q11, .inl (G.2.1, 6, .inl (fun _ => 0))), (q12, .inl (G.2.1, 6, .inl (fun _ => 0))), (q13, .inl (G.2.1, 6, .inl (fun _ => 0))), (q14, .inl (G.2.1, 70, .inl (fun _ => 0))), (q15, .inl (G.2.1, 328, .inl (fun _ => 0))), (q16, .inl (G.2.1, 186624, .inl (fun _ => 0))), (q17, .inl (G.2.1, 186624, .inl (fun _ => 0))), (q18, .inl (G.2.1, 180, .inl (fun _ => 0))), (q19, .inl (G.2.2.1, 2, .inl (fun _ => 0)))]) eX7_init_170 inX7 tyX7 tyX7_ok nmX7 0 rfl rfl 11 (Nat.le_of_ble_eq_true rfl) tw_656 rfl rfl rfl rfl (Nat.le_of_ble_eq_true rfl) rfl ?_
  refine V_iconst (v := (0 : Int32)) eX7_init_173 rfl ?_
  refine V_istore_n (lv' := [(1, .int (0 : Int32)), (0, .ref h0)]) eX7_init_174 (Nat.le_of_ble_eq_true rfl) rfl ?_
  refine V_iload_n eX7_init_175 0 rfl ?_
  refine V_bipush (v := (6 : Int32)) eX7_init_176 rfl ?_
  refine V_icmp_ge (tgt := 194) eX7_init_178 rfl (fun hb => absurd hb (by decide)) (fun _ => ?_)
  refine V_aload_n eX7_init_181 1 rfl ?_
  refine V_get (v := .ref q1) eX7_init_182 inX7 0 rfl rfl 1 (Nat.le_of_ble_eq_true rfl) tw_646 rfl ?_
  refine V_iload_n eX7_init_185 0 rfl ?_
  refine V_iconst (v := (5 : Int32)) eX7_init_186 rfl ?_
  refine V_iast (w' := [(h0, .inr (7, [.int (3 : Int32), .ref q1, .int 0, .int 0, .ref q2, .ref q3, .ref q4, .ref q5, .ref q6, .ref q7, .int (4 : Int32), .int (9 : Int32), .ref q8, .ref q9, .int 0, .ref q10, .int 0, .ref q11, .ref q12, .int 0, .int 0, .ref q13, .ref q14, .ref q15, .ref q16, .ref q17, .int 0, .ref q18, .ref q19, .int 0, .int 0])), (q1, .inl (G.2.1, 6, .inl (upd (fun _ => 0) 0 (5 : Int32)))), (q2, .inl (G.2.1, 8, .inl (fun _ => 0))), (q3, .inl (G.2.1, 8, .inl (fun _ => 0))), (q4, .inl (G.2.1, 8, .inl (fun _ => 0))), (q5, .inl (G.2.1, 8, .inl (fun _ => 0))), (q6, .inl (G.2.1, 8, .inl (fun _ => 0))), (q7, .inl (G.2.1, 8, .inl (fun _ => 0))), (q8, .inl (G.2.1, 8, .inl (fun _ => 0))), (q9, .inl (G.2.1, 8, .inl (fun _ => 0))), (q10, .inl (G.2.1, 20, .inl (fun _ => 0))), (q11, .inl (G.2.1, 6, .inl (fun _ => 0))), (q12, .inl (G.2.1, 6, .inl (fun _ => 0))), (q13, .inl (G.2.1, 6, .inl (fun _ => 0))), (q14, .inl (G.2.1, 70, .inl (fun _ => 0))), (q15, .inl (G.2.1, 328, .inl (fun _ => 0))), (q16, .inl (G.2.1, 186624, .inl (fun _ => 0))), (q17, .inl (G.2.1, 186624, .inl (fun _ => 0))), (q18, .inl (G.2.1, 180, .inl (fun _ => 0))), (q19, .inl (G.2.2.1, 2, .inl (fun _ => 0)))]) eX7_init_187 1 rfl (by unfold vp_in; decide) rfl ?_
  refine V_iinc (v := (1 : Int32)) (lv' := [(1, .int (1 : Int32)), (0, .ref h0)]) eX7_init_188 0 rfl rfl (Nat.le_of_ble_eq_true rfl) rfl ?_
  refine V_goto (tgt := 175) eX7_init_191 rfl ?_
  refine V_iload_n eX7_init_175 0 rfl ?_
  refine V_bipush (v := (6 : Int32)) eX7_init_176 rfl ?_
  refine V_icmp_ge (tgt := 194) eX7_init_178 rfl (fun hb => absurd hb (by decide)) (fun _ => ?_)
  refine V_aload_n eX7_init_181 1 rfl ?_
  refine V_get (v := .ref q1) eX7_init_182 inX7 0 rfl rfl 1 (Nat.le_of_ble_eq_true rfl) tw_646 rfl ?_
  refine V_iload_n eX7_init_185 0 rfl ?_
  refine V_iconst (v := (5 : Int32)) eX7_init_186 rfl ?_
  refine V_iast (w' := [(h0, .inr (7, [.int (3 : Int32), .ref q1, .int 0, .int 0, .ref q2, .ref q3, .ref q4, .ref q5, .ref q6, .ref q7, .int (4 : Int32), .int (9 : Int32), .ref q8, .ref q9, .int 0, .ref q10, .int 0, .ref q11, .ref q12, .int 0, .int 0, .ref q13, .ref q14, .ref q15, .ref q16, .ref q17, .int 0, .ref q18, .ref q19, .int 0, .int 0])), (q1, .inl (G.2.1, 6, .inl (upd (upd (fun _ => 0) 0 (5 : Int32)) 1 (5 : Int32)))), (q2, .inl (G.2.1, 8, .inl (fun _ => 0))), (q3, .inl (G.2.1, 8, .inl (fun _ => 0))), (q4, .inl (G.2.1, 8, .inl (fun _ => 0))), (q5, .inl (G.2.1, 8, .inl (fun _ => 0))), (q6, .inl (G.2.1, 8, .inl (fun _ => 0))), (q7, .inl (G.2.1, 8, .inl (fun _ => 0))), (q8, .inl (G.2.1, 8, .inl (fun _ => 0))), (q9, .inl (G.2.1, 8, .inl (fun _ => 0))), (q10, .inl (G.2.1, 20, .inl (fun _ => 0))), (q11, .inl (G.2.1, 6, .inl (fun _ => 0))), (q12, .inl (G.2.1, 6, .inl (fun _ => 0))), (q13, .inl (G.2.1, 6, .inl (fun _ => 0))), (q14, .inl (G.2.1, 70, .inl (fun _ => 0))), (q15, .inl (G.2.1, 328, .inl (fun _ => 0))), (q16, .inl (G.2.1, 186624, .inl (fun _ => 0))), (q17, .inl (G.2.1, 186624, .inl (fun _ => 0))), (q18, .inl (G.2.1, 180, .inl (fun _ => 0))), (q19, .inl (G.2.2.1, 2, .inl (fun _ => 0)))]) eX7_init_187 1 rfl (by unfold vp_in; decide) rfl ?_
  refine V_iinc (v := (2 : Int32)) (lv' := [(1, .int (2 : Int32)), (0, .ref h0)]) eX7_init_188 0 rfl rfl (Nat.le_of_ble_eq_true rfl) rfl ?_
  refine V_goto (tgt := 175) eX7_init_191 rfl ?_
  refine V_iload_n eX7_init_175 0 rfl ?_
  refine V_bipush (v := (6 : Int32)) eX7_init_176 rfl ?_
  refine V_icmp_ge (tgt := 194) eX7_init_178 rfl (fun hb => absurd hb (by decide)) (fun _ => ?_)
  refine V_aload_n eX7_init_181 1 rfl ?_
  refine V_get (v := .ref q1) eX7_init_182 inX7 0 rfl rfl 1 (Nat.le_of_ble_eq_true rfl) tw_646 rfl ?_
  refine V_iload_n eX7_init_185 0 rfl ?_
  refine V_iconst (v := (5 : Int32)) eX7_init_186 rfl ?_
  refine V_iast (w' := [(h0, .inr (7, [.int (3 : Int32), .ref q1, .int 0, .int 0, .ref q2, .ref q3, .ref q4, .ref q5, .ref q6, .ref q7, .int (4 : Int32), .int (9 : Int32), .ref q8, .ref q9, .int 0, .ref q10, .int 0, .ref q11, .ref q12, .int 0, .int 0, .ref q13, .ref q14, .ref q15, .ref q16, .ref q17, .int 0, .ref q18, .ref q19, .int 0, .int 0])), (q1, .inl (G.2.1, 6, .inl (upd (upd (upd (fun _ => 0) 0 (5 : Int32)) 1 (5 : Int32)) 2 (5 : Int32)))), (q2, .inl (G.2.1, 8, .inl (fun _ => 0))), (q3, .inl (G.2.1, 8, .inl (fun _ => 0))), (q4, .inl (G.2.1, 8, .inl (fun _ => 0))), (q5, .inl (G.2.1, 8, .inl (fun _ => 0))), (q6, .inl (G.2.1, 8, .inl (fun _ => 0))), (q7, .inl (G.2.1, 8, .inl (fun _ => 0))), (q8, .inl (G.2.1, 8, .inl (fun _ => 0))), (q9, .inl (G.2.1, 8, .inl (fun _ => 0))), (q10, .inl (G.2.1, 20, .inl (fun _ => 0))), (q11, .inl (G.2.1, 6, .inl (fun _ => 0))), (q12, .inl (G.2.1, 6, .inl (fun _ => 0))), (q13, .inl (G.2.1, 6, .inl (fun _ => 0))), (q14, .inl (G.2.1, 70, .inl (fun _ => 0))), (q15, .inl (G.2.1, 328, .inl (fun _ => 0))), (q16, .inl (G.2.1, 186624, .inl (fun _ => 0))), (q17, .inl (G.2.1, 186624, .inl (fun _ => 0))), (q18, .inl (G.2.1, 180, .inl (fun _ => 0))), (q19, .inl (G.2.2.1, 2, .inl (fun _ => 0)))]) eX7_init_187 1 rfl (by unfold vp_in; decide) rfl ?_
  refine V_iinc (v := (3 : Int32)) (lv' := [(1, .int (3 : Int32)), (0, .ref h0)]) eX7_init_188 0 rfl rfl (Nat.le_of_ble_eq_true rfl) rfl ?_
  refine V_goto (tgt := 175) eX7_init_191 rfl ?_
  refine V_iload_n eX7_init_175 0 rfl ?_
  refine V_bipush (v := (6 : Int32)) eX7_init_176 rfl ?_
  refine V_icmp_ge (tgt := 194) eX7_init_178 rfl (fun hb => absurd hb (by decide)) (fun _ => ?_)
  refine V_aload_n eX7_init_181 1 rfl ?_
  refine V_get (v := .ref q1) eX7_init_182 inX7 0 rfl rfl 1 (Nat.le_of_ble_eq_true rfl) tw_646 rfl ?_
  refine V_iload_n eX7_init_185 0 rfl ?_
  refine V_iconst (v := (5 : Int32)) eX7_init_186 rfl ?_
  refine V_iast (w' := [(h0, .inr (7, [.int (3 : Int32), .ref q1, .int 0, .int 0, .ref q2, .ref q3, .ref q4, .ref q5, .ref q6, .ref q7, .int (4 : Int32), .int (9 : Int32), .ref q8, .ref q9, .int 0, .ref q10, .int 0, .ref q11, .ref q12, .int 0, .int 0, .ref q13, .ref q14, .ref q15, .ref q16, .ref q17, .int 0, .ref q18, .ref q19, .int 0, .int 0])), (q1, .inl (G.2.1, 6, .inl (upd (upd (upd (upd (fun _ => 0) 0 (5 : Int32)) 1 (5 : Int32)) 2 (5 : Int32)) 3 (5 : Int32)))), (q2, .inl (G.2.1, 8, .inl (fun _ => 0))), (q3, .inl (G.2.1, 8, .inl (fun _ => 0))), (q4, .inl (G.2.1, 8, .inl (fun _ => 0))), (q5, .inl (G.2.1, 8, .inl (fun _ => 0))), (q6, .inl (G.2.1, 8, .inl (fun _ => 0))), (q7, .inl (G.2.1, 8, .inl (fun _ => 0))), (q8, .inl (G.2.1, 8, .inl (fun _ => 0))), (q9, .inl (G.2.1, 8, .inl (fun _ => 0))), (q10, .inl (G.2.1, 20, .inl (fun _ => 0))), (q11, .inl (G.2.1, 6, .inl (fun _ => 0))), (q12, .inl (G.2.1, 6, .inl (fun _ => 0))), (q13, .inl (G.2.1, 6, .inl (fun _ => 0))), (q14, .inl (G.2.1, 70, .inl (fun _ => 0))), (q15, .inl (G.2.1, 328, .inl (fun _ => 0))), (q16, .inl (G.2.1, 186624, .inl (fun _ => 0))), (q17, .inl (G.2.1, 186624, .inl (fun _ => 0))), (q18, .inl (G.2.1, 180, .inl (fun _ => 0))), (q19, .inl (G.2.2.1, 2, .inl (fun _ => 0)))]) eX7_init_187 1 rfl (by unfold vp_in; decide) rfl ?_
  refine V_iinc (v := (4 : Int32)) (lv' := [(1, .int (4 : Int32)), (0, .ref h0)]) eX7_init_188 0 rfl rfl (Nat.le_of_ble_eq_true rfl) rfl ?_
  refine V_goto (tgt := 175) eX7_init_191 rfl ?_
  refine V_iload_n eX7_init_175 0 rfl ?_
  refine V_bipush (v := (6 : Int32)) eX7_init_176 rfl ?_
  refine V_icmp_ge (tgt := 194) eX7_init_178 rfl (fun hb => absurd hb (by decide)) (fun _ => ?_)
  refine V_aload_n eX7_init_181 1 rfl ?_
  refine V_get (v := .ref q1) eX7_init_182 inX7 0 rfl rfl 1 (Nat.le_of_ble_eq_true rfl) tw_646 rfl ?_
  refine V_iload_n eX7_init_185 0 rfl ?_
  refine V_iconst (v := (5 : Int32)) eX7_init_186 rfl ?_
  refine V_iast (w' := [(h0, .inr (7, [.int (3 : Int32), .ref q1, .int 0, .int 0, .ref q2, .ref q3, .ref q4, .ref q5, .ref q6, .ref q7, .int (4 : Int32), .int (9 : Int32), .ref q8, .ref q9, .int 0, .ref q10, .int 0, .ref q11, .ref q12, .int 0, .int 0, .ref q13, .ref q14, .ref q15, .ref q16, .ref q17, .int 0, .ref q18, .ref q19, .int 0, .int 0])), (q1, .inl (G.2.1, 6, .inl (upd (upd (upd (upd (upd (fun _ => 0) 0 (5 : Int32)) 1 (5 : Int32)) 2 (5 : Int32)) 3 (5 : Int32)) 4 (5 : Int32)))), (q2, .inl (G.2.1, 8, .inl (fun _ => 0))), (q3, .inl (G.2.1, 8, .inl (fun _ => 0))), (q4, .inl (G.2.1, 8, .inl (fun _ => 0))), (q5, .inl (G.2.1, 8, .inl (fun _ => 0))), (q6, .inl (G.2.1, 8, .inl (fun _ => 0))), (q7, .inl (G.2.1, 8, .inl (fun _ => 0))), (q8, .inl (G.2.1, 8, .inl (fun _ => 0))), (q9, .inl (G.2.1, 8, .inl (fun _ => 0))), (q10, .inl (G.2.1, 20, .inl (fun _ => 0))), (q11, .inl (G.2.1, 6, .inl (fun _ => 0))), (q12, .inl (G.2.1, 6, .inl (fun _ => 0))), (q13, .inl (G.2.1, 6, .inl (fun _ => 0))), (q14, .inl (G.2.1, 70, .inl (fun _ => 0))), (q15, .inl (G.2.1, 328, .inl (fun _ => 0))), (q16, .inl (G.2.1, 186624, .inl (fun _ => 0))), (q17, .inl (G.2.1, 186624, .inl (fun _ => 0))), (q18, .inl (G.2.1, 180, .inl (fun _ => 0))), (q19, .inl (G.2.2.1, 2, .inl (fun _ => 0)))]) eX7_init_187 1 rfl (by unfold vp_in; decide) rfl ?_
  refine V_iinc (v := (5 : Int32)) (lv' := [(1, .int (5 : Int32)), (0, .ref h0)]) eX7_init_188 0 rfl rfl (Nat.le_of_ble_eq_true rfl) rfl ?_
  refine V_goto (tgt := 175) eX7_init_191 rfl ?_
  refine V_iload_n eX7_init_175 0 rfl ?_
  refine V_bipush (v := (6 : Int32)) eX7_init_176 rfl ?_
  refine V_icmp_ge (tgt := 194) eX7_init_178 rfl (fun hb => absurd hb (by decide)) (fun _ => ?_)
  refine V_aload_n eX7_init_181 1 rfl ?_
  refine V_get (v := .ref q1) eX7_init_182 inX7 0 rfl rfl 1 (Nat.le_of_ble_eq_true rfl) tw_646 rfl ?_
  refine V_iload_n eX7_init_185 0 rfl ?_
  refine V_iconst (v := (5 : Int32)) eX7_init_186 rfl ?_
  refine V_iast (w' := [(h0, .inr (7, [.int (3 : Int32), .ref q1, .int 0, .int 0, .ref q2, .ref q3, .ref q4, .ref q5, .ref q6, .ref q7, .int (4 : Int32), .int (9 : Int32), .ref q8, .ref q9, .int 0, .ref q10, .int 0, .ref q11, .ref q12, .int 0, .int 0, .ref q13, .ref q14, .ref q15, .ref q16, .ref q17, .int 0, .ref q18, .ref q19, .int 0, .int 0])), (q1, .inl (G.2.1, 6, .inl (upd (upd (upd (upd (upd (upd (fun _ => 0) 0 (5 : Int32)) 1 (5 : Int32)) 2 (5 : Int32)) 3 (5 : Int32)) 4 (5 : Int32)) 5 (5 : Int32)))), (q2, .inl (G.2.1, 8, .inl (fun _ => 0))), (q3, .inl (G.2.1, 8, .inl (fun _ => 0))), (q4, .inl (G.2.1, 8, .inl (fun _ => 0))), (q5, .inl (G.2.1, 8, .inl (fun _ => 0))), (q6, .inl (G.2.1, 8, .inl (fun _ => 0))), (q7, .inl (G.2.1, 8, .inl (fun _ => 0))), (q8, .inl (G.2.1, 8, .inl (fun _ => 0))), (q9, .inl (G.2.1, 8, .inl (fun _ => 0))), (q10, .inl (G.2.1, 20, .inl (fun _ => 0))), (q11, .inl (G.2.1, 6, .inl (fun _ => 0))), (q12, .inl (G.2.1, 6, .inl (fun _ => 0))), (q13, .inl (G.2.1, 6, .inl (fun _ => 0))), (q14, .inl (G.2.1, 70, .inl (fun _ => 0))), (q15, .inl (G.2.1, 328, .inl (fun _ => 0))), (q16, .inl (G.2.1, 186624, .inl (fun _ => 0))), (q17, .inl (G.2.1, 186624, .inl (fun _ => 0))), (q18, .inl (G.2.1, 180, .inl (fun _ => 0))), (q19, .inl (G.2.2.1, 2, .inl (fun _ => 0)))]) eX7_init_187 1 rfl (by unfold vp_in; decide) rfl ?_
  refine V_iinc (v := (6 : Int32)) (lv' := [(1, .int (6 : Int32)), (0, .ref h0)]) eX7_init_188 0 rfl rfl (Nat.le_of_ble_eq_true rfl) rfl ?_
  refine V_goto (tgt := 175) eX7_init_191 rfl ?_
  refine V_iload_n eX7_init_175 0 rfl ?_
  refine V_bipush (v := (6 : Int32)) eX7_init_176 rfl ?_
  refine V_icmp_ge (tgt := 194) eX7_init_178 rfl (fun _ => ?_) (fun hb => absurd (by decide) hb)
  exact V_vret eX7_init_194 rfl ⟨rfl, q1, q2, q3, q4, q5, q6, q7, q8, q9, q10, q11, q12, q13, q14, q15, q16, q17, q18, q19, rfl⟩
