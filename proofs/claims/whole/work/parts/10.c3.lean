theorem hdX3_scoreOf : yX3_scoreOf.cls ≠ "java/lang/invoke/MethodHandle" ∧ yX3_scoreOf.cls ≠ "java/lang/invoke/VarHandle" ∧ (parseMethodDescriptor yX3_scoreOf.desc).map (fun d => d.parameters.length) = some 3 := by decide +kernel
theorem eX3_scoreOf_0 : Dc cX3_scoreOf 0 (.aload_n 0) 1 1 := ⟨by decide +kernel, rfl⟩
theorem eX3_scoreOf_1 : Dc cX3_scoreOf 1 (.getfield 11) 3 4 := ⟨by decide +kernel, rfl⟩
theorem eX3_scoreOf_4 : Dc cX3_scoreOf 4 (.iload_n 1) 1 5 := ⟨by decide +kernel, rfl⟩
theorem eX3_scoreOf_5 : Dc cX3_scoreOf 5 (.bipush 10) 2 7 := ⟨by decide +kernel, rfl⟩
theorem eX3_scoreOf_7 : Dc cX3_scoreOf 7 (.imul) 1 8 := ⟨by decide +kernel, rfl⟩
theorem eX3_scoreOf_8 : Dc cX3_scoreOf 8 (.iload_n 3) 1 9 := ⟨by decide +kernel, rfl⟩
theorem eX3_scoreOf_9 : Dc cX3_scoreOf 9 (.iadd) 1 10 := ⟨by decide +kernel, rfl⟩
theorem eX3_scoreOf_10 : Dc cX3_scoreOf 10 (.iaload) 1 11 := ⟨by decide +kernel, rfl⟩
theorem eX3_scoreOf_11 : Dc cX3_scoreOf 11 (.aload_n 0) 1 12 := ⟨by decide +kernel, rfl⟩
theorem eX3_scoreOf_12 : Dc cX3_scoreOf 12 (.getfield 15) 3 15 := ⟨by decide +kernel, rfl⟩
theorem eX3_scoreOf_15 : Dc cX3_scoreOf 15 (.iload_n 1) 1 16 := ⟨by decide +kernel, rfl⟩
theorem eX3_scoreOf_16 : Dc cX3_scoreOf 16 (.iconst 1) 1 17 := ⟨by decide +kernel, rfl⟩
theorem eX3_scoreOf_17 : Dc cX3_scoreOf 17 (.iadd) 1 18 := ⟨by decide +kernel, rfl⟩
theorem eX3_scoreOf_18 : Dc cX3_scoreOf 18 (.bipush 41) 2 20 := ⟨by decide +kernel, rfl⟩
theorem eX3_scoreOf_20 : Dc cX3_scoreOf 20 (.imul) 1 21 := ⟨by decide +kernel, rfl⟩
theorem eX3_scoreOf_21 : Dc cX3_scoreOf 21 (.iload_n 2) 1 22 := ⟨by decide +kernel, rfl⟩
theorem eX3_scoreOf_22 : Dc cX3_scoreOf 22 (.iadd) 1 23 := ⟨by decide +kernel, rfl⟩
theorem eX3_scoreOf_23 : Dc cX3_scoreOf 23 (.iload_n 3) 1 24 := ⟨by decide +kernel, rfl⟩
theorem eX3_scoreOf_24 : Dc cX3_scoreOf 24 (.isub) 1 25 := ⟨by decide +kernel, rfl⟩
theorem eX3_scoreOf_25 : Dc cX3_scoreOf 25 (.iaload) 1 26 := ⟨by decide +kernel, rfl⟩
theorem eX3_scoreOf_26 : Dc cX3_scoreOf 26 (.iadd) 1 27 := ⟨by decide +kernel, rfl⟩
theorem eX3_scoreOf_27 : Dc cX3_scoreOf 27 (.ireturn) 1 28 := ⟨by decide +kernel, rfl⟩
def fX3_scoreOf (c : SS) (p1 : Int32) (p2 : Int32) (p3 : Int32) : Option (Int32) := ald 70 (c.2 13) ((p1 * (10 : Int32)) + p3) (fun v1 => ald 328 (c.2 14) ((((p1 + (1 : Int32)) * (41 : Int32)) + p2) - p3) (fun v2 => some (v1 + v2)))
set_option maxRecDepth 20000 in
theorem ctX3_scoreOf (l : Launch) (G : tg_G) (A : Nat → Nat) (c : SS) (p1 : Int32) (p2 : Int32) (p3 : Int32) {z : Int32} (h : fX3_scoreOf c p1 p2 p3 = some z) : Mt l G yX3_scoreOf cX3_scoreOf 4 (some .int) (tg_R 0 0) [.ref (A 18), .int p1, .int p2, .int p3] (wC G A c) (fun v w1 => v = some (.int z) ∧ w1 = wC G A c) := by
  refine Mt_of2 (own := "TramGod$Purse") (nm := "scoreOf") rfl rfl rfl (Nat.le_of_ble_eq_true rfl) (lv := [(0, .ref (A 18)), (1, .int p1), (2, .int p2), (3, .int p3)]) rfl ?_
  unfold fX3_scoreOf at h
  refine V_aload_n eX3_scoreOf_0 0 rfl ?_
  refine V_get (v := .ref (A 19)) eX3_scoreOf_1 inX3 18 rfl rfl 2 (Nat.le_of_ble_eq_true rfl) tw_161 rfl ?_
  refine V_iload_n eX3_scoreOf_4 1 rfl ?_
  refine V_bipush (v := (10 : Int32)) eX3_scoreOf_5 rfl ?_
  refine V_imul eX3_scoreOf_7 ?_
  refine V_iload_n eX3_scoreOf_8 3 rfl ?_
  refine V_iadd eX3_scoreOf_9 ?_
  obtain ⟨v1, hi1, ev1, h⟩ := ald_some h
  refine V_ialdv eX3_scoreOf_10 19 rfl hi1 ev1 ?_
  refine V_aload_n eX3_scoreOf_11 0 rfl ?_
  refine V_get (v := .ref (A 20)) eX3_scoreOf_12 inX3 18 rfl rfl 3 (Nat.le_of_ble_eq_true rfl) tw_162 rfl ?_
  refine V_iload_n eX3_scoreOf_15 1 rfl ?_
  refine V_iconst (v := (1 : Int32)) eX3_scoreOf_16 rfl ?_
  refine V_iadd eX3_scoreOf_17 ?_
  refine V_bipush (v := (41 : Int32)) eX3_scoreOf_18 rfl ?_
  refine V_imul eX3_scoreOf_20 ?_
  refine V_iload_n eX3_scoreOf_21 2 rfl ?_
  refine V_iadd eX3_scoreOf_22 ?_
  refine V_iload_n eX3_scoreOf_23 3 rfl ?_
  refine V_isub eX3_scoreOf_24 ?_
  obtain ⟨v2, hi2, ev2, h⟩ := ald_some h
  refine V_ialdv eX3_scoreOf_25 20 rfl hi2 ev2 ?_
  refine V_iadd eX3_scoreOf_26 ?_
  obtain rfl := Option.some.inj h
  exact V_ret eX3_scoreOf_27 rfl ⟨rfl, rfl⟩
theorem hdX3_fewestOfBest : yX3_fewestOfBest.cls ≠ "java/lang/invoke/MethodHandle" ∧ yX3_fewestOfBest.cls ≠ "java/lang/invoke/VarHandle" ∧ (parseMethodDescriptor yX3_fewestOfBest.desc).map (fun d => d.parameters.length) = some 2 := by decide +kernel
theorem eX3_fewestOfBest_0 : Dc cX3_fewestOfBest 0 (.aload_n 0) 1 1 := ⟨by decide +kernel, rfl⟩
theorem eX3_fewestOfBest_1 : Dc cX3_fewestOfBest 1 (.getfield 18) 3 4 := ⟨by decide +kernel, rfl⟩
theorem eX3_fewestOfBest_4 : Dc cX3_fewestOfBest 4 (.getfield 32) 3 7 := ⟨by decide +kernel, rfl⟩
theorem eX3_fewestOfBest_7 : Dc cX3_fewestOfBest 7 (.iload_n 2) 1 8 := ⟨by decide +kernel, rfl⟩
theorem eX3_fewestOfBest_8 : Dc cX3_fewestOfBest 8 (.invokestatic 54) 3 11 := ⟨by decide +kernel, rfl⟩
theorem eX3_fewestOfBest_11 : Dc cX3_fewestOfBest 11 (.istore_n 3) 1 12 := ⟨by decide +kernel, rfl⟩
theorem eX3_fewestOfBest_12 : Dc cX3_fewestOfBest 12 (.iconst 0) 1 13 := ⟨by decide +kernel, rfl⟩
theorem eX3_fewestOfBest_13 : Dc cX3_fewestOfBest 13 (.istore 4) 2 15 := ⟨by decide +kernel, rfl⟩
theorem eX3_fewestOfBest_15 : Dc cX3_fewestOfBest 15 (.aload_n 0) 1 16 := ⟨by decide +kernel, rfl⟩
theorem eX3_fewestOfBest_16 : Dc cX3_fewestOfBest 16 (.iload_n 1) 1 17 := ⟨by decide +kernel, rfl⟩
theorem eX3_fewestOfBest_17 : Dc cX3_fewestOfBest 17 (.iload_n 2) 1 18 := ⟨by decide +kernel, rfl⟩
theorem eX3_fewestOfBest_18 : Dc cX3_fewestOfBest 18 (.iconst 0) 1 19 := ⟨by decide +kernel, rfl⟩
theorem eX3_fewestOfBest_19 : Dc cX3_fewestOfBest 19 (.invokevirtual 50) 3 22 := ⟨by decide +kernel, rfl⟩
theorem eX3_fewestOfBest_22 : Dc cX3_fewestOfBest 22 (.istore 5) 2 24 := ⟨by decide +kernel, rfl⟩
theorem eX3_fewestOfBest_24 : Dc cX3_fewestOfBest 24 (.iconst 1) 1 25 := ⟨by decide +kernel, rfl⟩
theorem eX3_fewestOfBest_25 : Dc cX3_fewestOfBest 25 (.istore 6) 2 27 := ⟨by decide +kernel, rfl⟩
theorem eX3_fewestOfBest_27 : Dc cX3_fewestOfBest 27 (.iload 6) 2 29 := ⟨by decide +kernel, rfl⟩
theorem eX3_fewestOfBest_29 : Dc cX3_fewestOfBest 29 (.iload_n 3) 1 30 := ⟨by decide +kernel, rfl⟩
theorem eX3_fewestOfBest_30 : Dc cX3_fewestOfBest 30 (.if_icmp .gt 34) 3 33 := ⟨by decide +kernel, rfl⟩
theorem eX3_fewestOfBest_33 : Dc cX3_fewestOfBest 33 (.aload_n 0) 1 34 := ⟨by decide +kernel, rfl⟩
theorem eX3_fewestOfBest_34 : Dc cX3_fewestOfBest 34 (.iload_n 1) 1 35 := ⟨by decide +kernel, rfl⟩
theorem eX3_fewestOfBest_35 : Dc cX3_fewestOfBest 35 (.iload_n 2) 1 36 := ⟨by decide +kernel, rfl⟩
theorem eX3_fewestOfBest_36 : Dc cX3_fewestOfBest 36 (.iload 6) 2 38 := ⟨by decide +kernel, rfl⟩
theorem eX3_fewestOfBest_38 : Dc cX3_fewestOfBest 38 (.invokevirtual 50) 3 41 := ⟨by decide +kernel, rfl⟩
theorem eX3_fewestOfBest_41 : Dc cX3_fewestOfBest 41 (.istore 7) 2 43 := ⟨by decide +kernel, rfl⟩
theorem eX3_fewestOfBest_43 : Dc cX3_fewestOfBest 43 (.iload 7) 2 45 := ⟨by decide +kernel, rfl⟩
theorem eX3_fewestOfBest_45 : Dc cX3_fewestOfBest 45 (.iload 5) 2 47 := ⟨by decide +kernel, rfl⟩
theorem eX3_fewestOfBest_47 : Dc cX3_fewestOfBest 47 (.if_icmp .le 11) 3 50 := ⟨by decide +kernel, rfl⟩
theorem eX3_fewestOfBest_50 : Dc cX3_fewestOfBest 50 (.iload 7) 2 52 := ⟨by decide +kernel, rfl⟩
theorem eX3_fewestOfBest_52 : Dc cX3_fewestOfBest 52 (.istore 5) 2 54 := ⟨by decide +kernel, rfl⟩
theorem eX3_fewestOfBest_54 : Dc cX3_fewestOfBest 54 (.iload 6) 2 56 := ⟨by decide +kernel, rfl⟩
theorem eX3_fewestOfBest_56 : Dc cX3_fewestOfBest 56 (.istore 4) 2 58 := ⟨by decide +kernel, rfl⟩
theorem eX3_fewestOfBest_58 : Dc cX3_fewestOfBest 58 (.iinc 6 1) 3 61 := ⟨by decide +kernel, rfl⟩
theorem eX3_fewestOfBest_61 : Dc cX3_fewestOfBest 61 (.goto (-34)) 3 64 := ⟨by decide +kernel, rfl⟩
theorem eX3_fewestOfBest_64 : Dc cX3_fewestOfBest 64 (.iload 4) 2 66 := ⟨by decide +kernel, rfl⟩
theorem eX3_fewestOfBest_66 : Dc cX3_fewestOfBest 66 (.ireturn) 1 67 := ⟨by decide +kernel, rfl⟩
def fX3_fewestOfBest_L27  (c : SS) (a1 : Int32) (a2 : Int32) (a3 : Int32) : Nat → Int32 → Int32 → Int32 → Option (Int32)
  | 0, _, _, _ => none
  | n + 1, a4, a5, a6 => if a3 < a6 then some a4 else Option.bind (fX3_scoreOf c a1 a2 a6) (fun q3 => jn (fun (x4 : Int32) (x5 : Int32) => fX3_fewestOfBest_L27 c a1 a2 a3 n x4 x5 (a6 + (1 : Int32))) (fun j58 => if q3 ≤ a5 then j58 a4 a5 else j58 a6 q3))
def fX3_fewestOfBest (c : SS) (p1 : Int32) (p2 : Int32) : Option (Int32) := Option.bind (fX3_scoreOf c p1 p2 (0 : Int32)) (fun q1 => fX3_fewestOfBest_L27 c p1 p2 (mmin (c.1 3) p2) fu (0 : Int32) q1 (1 : Int32))
set_option maxRecDepth 20000 in
theorem ctX3_fewestOfBest_L27 (l : Launch) (G : tg_G) (A : Nat → Nat)  (c : SS) (a1 : Int32) (a2 : Int32) (a3 : Int32) {z : Int32}  : ∀ (n : Nat) (a4 : Int32) (a5 : Int32) (a6 : Int32), fX3_fewestOfBest_L27 c a1 a2 a3 n a4 a5 a6 = some z → V l G (tg_Zm G (fun v w1 => v = some (.int z) ∧ w1 = wC G A c) 0 0) tg_E0 (tg_R 1 23) "TramGod$Purse" "fewestOfBest" cX3_fewestOfBest 8 (some .int) 27 [(0, .ref (A 18)), (1, .int a1), (2, .int a2), (3, .int a3), (4, .int a4), (5, .int a5), (6, .int a6)] [] (wC G A c) 0 0 := by
  intro n
  induction n with
  | zero => intro a4 a5 a6 h; exact absurd h (by simp [fX3_fewestOfBest_L27])
  | succ n ih =>
    intro a4 a5 a6 h
    unfold fX3_fewestOfBest_L27 at h
    refine V_iload eX3_fewestOfBest_27 6 rfl ?_
    refine V_iload_n eX3_fewestOfBest_29 3 rfl ?_
    refine V_icmp_gt (tgt := 64) eX3_fewestOfBest_30 rfl (fun hb2 => ?_) (fun hb2 => ?_)
    · replace h := (if_pos hb2).symm.trans h
      refine V_iload eX3_fewestOfBest_64 4 rfl ?_
      obtain rfl := Option.some.inj h
      exact V_ret eX3_fewestOfBest_66 rfl ⟨rfl, rfl⟩
    · replace h := (if_neg hb2).symm.trans h
      refine V_aload_n eX3_fewestOfBest_33 0 rfl ?_
      refine V_iload_n eX3_fewestOfBest_34 1 rfl ?_
      refine V_iload_n eX3_fewestOfBest_35 2 rfl ?_
      refine V_iload eX3_fewestOfBest_36 6 rfl ?_
      obtain ⟨q3, hc3, h⟩ := Option.bind_eq_some_iff.mp h
      refine V_callVi (rest := []) eX3_fewestOfBest_38 (ctX3_scoreOf l G A c a1 a2 a6 hc3) tc_498 tw_495 tw_6 tw_497 ts_14 18 rfl rfl hdX3_scoreOf rfl ⟨Nat.le_of_ble_eq_true rfl, Nat.le_of_ble_eq_true rfl⟩ rfl (Nat.le_of_ble_eq_true rfl) ⟨Nat.zero_le _, Nat.zero_le _⟩ ?_
      refine V_istore (lv' := [(7, .int q3), (0, .ref (A 18)), (1, .int a1), (2, .int a2), (3, .int a3), (4, .int a4), (5, .int a5), (6, .int a6)]) eX3_fewestOfBest_41 (Nat.le_of_ble_eq_true rfl) rfl ?_
      refine V_iload eX3_fewestOfBest_43 0 rfl ?_
      refine V_iload eX3_fewestOfBest_45 6 rfl ?_
      refine jn_elim h (fun j => ∀ (x4 : Int32) (x5 : Int32), j x4 x5 = some z → V l G (tg_Zm G (fun v w1 => v = some (.int z) ∧ w1 = wC G A c) 0 0) tg_E0 (tg_R 1 23) "TramGod$Purse" "fewestOfBest" cX3_fewestOfBest 8 (some .int) 58 [(0, .ref (A 18)), (1, .int a1), (2, .int a2), (3, .int a3), (4, .int x4), (5, .int x5), (6, .int a6)] [] (wC G A c) 0 0) ?_ (fun j58 hj58 h => ?_)
      · intro x4 x5 h
        refine V_iinc (v := (a6 + (1 : Int32))) (lv' := [(6, .int (a6 + (1 : Int32))), (0, .ref (A 18)), (1, .int a1), (2, .int a2), (3, .int a3), (4, .int x4), (5, .int x5)]) eX3_fewestOfBest_58 6 rfl rfl (Nat.le_of_ble_eq_true rfl) rfl ?_
        refine V_goto (tgt := 27) eX3_fewestOfBest_61 rfl ?_
        refine V_lv (lv' := [(0, .ref (A 18)), (1, .int a1), (2, .int a2), (3, .int a3), (4, .int x4), (5, .int x5), (6, .int (a6 + (1 : Int32)))]) [1, 2, 3, 4, 5, 6, 0] rfl ?_
        exact ih x4 x5 (a6 + (1 : Int32)) h
      refine V_icmp_le (tgt := 58) eX3_fewestOfBest_47 rfl (fun hb6 => ?_) (fun hb6 => ?_)
      · replace h := (if_pos hb6).symm.trans h
        refine V_lv (lv' := [(0, .ref (A 18)), (1, .int a1), (2, .int a2), (3, .int a3), (4, .int a4), (5, .int a5), (6, .int a6)]) [1, 2, 3, 4, 5, 6, 7] rfl ?_
        exact hj58 a4 a5 h
      · replace h := (if_neg hb6).symm.trans h
        refine V_iload eX3_fewestOfBest_50 0 rfl ?_
        refine V_istore (lv' := [(5, .int q3), (7, .int q3), (0, .ref (A 18)), (1, .int a1), (2, .int a2), (3, .int a3), (4, .int a4), (6, .int a6)]) eX3_fewestOfBest_52 (Nat.le_of_ble_eq_true rfl) rfl ?_
        refine V_iload eX3_fewestOfBest_54 7 rfl ?_
        refine V_istore (lv' := [(4, .int a6), (5, .int q3), (7, .int q3), (0, .ref (A 18)), (1, .int a1), (2, .int a2), (3, .int a3), (6, .int a6)]) eX3_fewestOfBest_56 (Nat.le_of_ble_eq_true rfl) rfl ?_
        refine V_lv (lv' := [(0, .ref (A 18)), (1, .int a1), (2, .int a2), (3, .int a3), (4, .int a6), (5, .int q3), (6, .int a6)]) [3, 4, 5, 6, 0, 1, 7] rfl ?_
        exact hj58 a6 q3 h
set_option maxRecDepth 20000 in
theorem ctX3_fewestOfBest (l : Launch) (G : tg_G) (A : Nat → Nat) (c : SS) (p1 : Int32) (p2 : Int32) {z : Int32} (h : fX3_fewestOfBest c p1 p2 = some z) : Mt l G yX3_fewestOfBest cX3_fewestOfBest 8 (some .int) (tg_R 1 23) [.ref (A 18), .int p1, .int p2] (wC G A c) (fun v w1 => v = some (.int z) ∧ w1 = wC G A c) := by
  refine Mt_of2 (own := "TramGod$Purse") (nm := "fewestOfBest") rfl rfl rfl (Nat.le_of_ble_eq_true rfl) (lv := [(0, .ref (A 18)), (1, .int p1), (2, .int p2)]) rfl ?_
  unfold fX3_fewestOfBest at h
  refine V_aload_n eX3_fewestOfBest_0 0 rfl ?_
  refine V_get (v := .ref (A 3)) eX3_fewestOfBest_1 inX3 18 rfl rfl 0 (Nat.le_of_ble_eq_true rfl) tw_159 rfl ?_
  refine V_get (v := .int (c.1 3)) eX3_fewestOfBest_4 inX5 3 rfl rfl 2 (Nat.le_of_ble_eq_true rfl) tw_49 rfl ?_
  refine V_iload_n eX3_fewestOfBest_7 2 rfl ?_
  refine V_mmin (rest := []) eX3_fewestOfBest_8 tw_494 tw_272 tw_9 tc_273 (Nat.le_of_ble_eq_true rfl) (Nat.le_of_ble_eq_true rfl) ⟨Nat.zero_le _, Nat.zero_le _⟩ ?_
  refine V_istore_n (lv' := [(3, .int (mmin (c.1 3) p2)), (0, .ref (A 18)), (1, .int p1), (2, .int p2)]) eX3_fewestOfBest_11 (Nat.le_of_ble_eq_true rfl) rfl ?_
  refine V_iconst (v := (0 : Int32)) eX3_fewestOfBest_12 rfl ?_
  refine V_istore (lv' := [(4, .int (0 : Int32)), (3, .int (mmin (c.1 3) p2)), (0, .ref (A 18)), (1, .int p1), (2, .int p2)]) eX3_fewestOfBest_13 (Nat.le_of_ble_eq_true rfl) rfl ?_
  refine V_aload_n eX3_fewestOfBest_15 2 rfl ?_
  refine V_iload_n eX3_fewestOfBest_16 3 rfl ?_
  refine V_iload_n eX3_fewestOfBest_17 4 rfl ?_
  refine V_iconst (v := (0 : Int32)) eX3_fewestOfBest_18 rfl ?_
  obtain ⟨q1, hc1, h⟩ := Option.bind_eq_some_iff.mp h
  refine V_callVi (rest := []) eX3_fewestOfBest_19 (ctX3_scoreOf l G A c p1 p2 (0 : Int32) hc1) tc_498 tw_495 tw_6 tw_497 ts_14 18 rfl rfl hdX3_scoreOf rfl ⟨Nat.le_of_ble_eq_true rfl, Nat.le_of_ble_eq_true rfl⟩ rfl (Nat.le_of_ble_eq_true rfl) ⟨Nat.zero_le _, Nat.zero_le _⟩ ?_
  refine V_istore (lv' := [(5, .int q1), (4, .int (0 : Int32)), (3, .int (mmin (c.1 3) p2)), (0, .ref (A 18)), (1, .int p1), (2, .int p2)]) eX3_fewestOfBest_22 (Nat.le_of_ble_eq_true rfl) rfl ?_
  refine V_iconst (v := (1 : Int32)) eX3_fewestOfBest_24 rfl ?_
  refine V_istore (lv' := [(6, .int (1 : Int32)), (5, .int q1), (4, .int (0 : Int32)), (3, .int (mmin (c.1 3) p2)), (0, .ref (A 18)), (1, .int p1), (2, .int p2)]) eX3_fewestOfBest_25 (Nat.le_of_ble_eq_true rfl) rfl ?_
  refine V_lv (lv' := [(0, .ref (A 18)), (1, .int p1), (2, .int p2), (3, .int (mmin (c.1 3) p2)), (4, .int (0 : Int32)), (5, .int q1), (6, .int (1 : Int32))]) [4, 5, 6, 3, 2, 1, 0] rfl ?_
  refine ctX3_fewestOfBest_L27 l G A c p1 p2 (mmin (c.1 3) p2) fu (0 : Int32) q1 (1 : Int32) h
theorem hdX3_share : yX3_share.cls ≠ "java/lang/invoke/MethodHandle" ∧ yX3_share.cls ≠ "java/lang/invoke/VarHandle" ∧ (parseMethodDescriptor yX3_share.desc).map (fun d => d.parameters.length) = some 2 := by decide +kernel
theorem eX3_share_0 : Dc cX3_share 0 (.iconst 0) 1 1 := ⟨by decide +kernel, rfl⟩
theorem eX3_share_1 : Dc cX3_share 1 (.istore_n 3) 1 2 := ⟨by decide +kernel, rfl⟩
theorem eX3_share_2 : Dc cX3_share 2 (.iload_n 3) 1 3 := ⟨by decide +kernel, rfl⟩
theorem eX3_share_3 : Dc cX3_share 3 (.iload_n 1) 1 4 := ⟨by decide +kernel, rfl⟩
theorem eX3_share_4 : Dc cX3_share 4 (.if_icmp .gt 21) 3 7 := ⟨by decide +kernel, rfl⟩
theorem eX3_share_7 : Dc cX3_share 7 (.aload_n 0) 1 8 := ⟨by decide +kernel, rfl⟩
theorem eX3_share_8 : Dc cX3_share 8 (.getfield 15) 3 11 := ⟨by decide +kernel, rfl⟩
theorem eX3_share_11 : Dc cX3_share 11 (.iload_n 2) 1 12 := ⟨by decide +kernel, rfl⟩
theorem eX3_share_12 : Dc cX3_share 12 (.bipush 41) 2 14 := ⟨by decide +kernel, rfl⟩
theorem eX3_share_14 : Dc cX3_share 14 (.imul) 1 15 := ⟨by decide +kernel, rfl⟩
theorem eX3_share_15 : Dc cX3_share 15 (.iload_n 3) 1 16 := ⟨by decide +kernel, rfl⟩
theorem eX3_share_16 : Dc cX3_share 16 (.iadd) 1 17 := ⟨by decide +kernel, rfl⟩
theorem eX3_share_17 : Dc cX3_share 17 (.iconst 0) 1 18 := ⟨by decide +kernel, rfl⟩
theorem eX3_share_18 : Dc cX3_share 18 (.iastore) 1 19 := ⟨by decide +kernel, rfl⟩
theorem eX3_share_19 : Dc cX3_share 19 (.iinc 3 1) 3 22 := ⟨by decide +kernel, rfl⟩
theorem eX3_share_22 : Dc cX3_share 22 (.goto (-20)) 3 25 := ⟨by decide +kernel, rfl⟩
theorem eX3_share_25 : Dc cX3_share 25 (.iload_n 2) 1 26 := ⟨by decide +kernel, rfl⟩
theorem eX3_share_26 : Dc cX3_share 26 (.iconst 1) 1 27 := ⟨by decide +kernel, rfl⟩
theorem eX3_share_27 : Dc cX3_share 27 (.isub) 1 28 := ⟨by decide +kernel, rfl⟩
theorem eX3_share_28 : Dc cX3_share 28 (.istore_n 3) 1 29 := ⟨by decide +kernel, rfl⟩
theorem eX3_share_29 : Dc cX3_share 29 (.iload_n 3) 1 30 := ⟨by decide +kernel, rfl⟩
theorem eX3_share_30 : Dc cX3_share 30 (.ifCond .lt 94) 3 33 := ⟨by decide +kernel, rfl⟩
theorem eX3_share_33 : Dc cX3_share 33 (.aload_n 0) 1 34 := ⟨by decide +kernel, rfl⟩
theorem eX3_share_34 : Dc cX3_share 34 (.getfield 22) 3 37 := ⟨by decide +kernel, rfl⟩
theorem eX3_share_37 : Dc cX3_share 37 (.aload_n 0) 1 38 := ⟨by decide +kernel, rfl⟩
theorem eX3_share_38 : Dc cX3_share 38 (.getfield 18) 3 41 := ⟨by decide +kernel, rfl⟩
theorem eX3_share_41 : Dc cX3_share 41 (.iload_n 3) 1 42 := ⟨by decide +kernel, rfl⟩
theorem eX3_share_42 : Dc cX3_share 42 (.invokevirtual 26) 3 45 := ⟨by decide +kernel, rfl⟩
theorem eX3_share_45 : Dc cX3_share 45 (.aload_n 0) 1 46 := ⟨by decide +kernel, rfl⟩
theorem eX3_share_46 : Dc cX3_share 46 (.getfield 18) 3 49 := ⟨by decide +kernel, rfl⟩
theorem eX3_share_49 : Dc cX3_share 49 (.getfield 32) 3 52 := ⟨by decide +kernel, rfl⟩
theorem eX3_share_52 : Dc cX3_share 52 (.invokevirtual 36) 3 55 := ⟨by decide +kernel, rfl⟩
theorem eX3_share_55 : Dc cX3_share 55 (.aload_n 0) 1 56 := ⟨by decide +kernel, rfl⟩
theorem eX3_share_56 : Dc cX3_share 56 (.getfield 22) 3 59 := ⟨by decide +kernel, rfl⟩
theorem eX3_share_59 : Dc cX3_share 59 (.aload_n 0) 1 60 := ⟨by decide +kernel, rfl⟩
theorem eX3_share_60 : Dc cX3_share 60 (.getfield 18) 3 63 := ⟨by decide +kernel, rfl⟩
theorem eX3_share_63 : Dc cX3_share 63 (.getfield 32) 3 66 := ⟨by decide +kernel, rfl⟩
theorem eX3_share_66 : Dc cX3_share 66 (.aload_n 0) 1 67 := ⟨by decide +kernel, rfl⟩
theorem eX3_share_67 : Dc cX3_share 67 (.getfield 11) 3 70 := ⟨by decide +kernel, rfl⟩
theorem eX3_share_70 : Dc cX3_share 70 (.iload_n 3) 1 71 := ⟨by decide +kernel, rfl⟩
theorem eX3_share_71 : Dc cX3_share 71 (.bipush 10) 2 73 := ⟨by decide +kernel, rfl⟩
theorem eX3_share_73 : Dc cX3_share 73 (.imul) 1 74 := ⟨by decide +kernel, rfl⟩
theorem eX3_share_74 : Dc cX3_share 74 (.invokevirtual 42) 3 77 := ⟨by decide +kernel, rfl⟩
theorem eX3_share_77 : Dc cX3_share 77 (.iconst 0) 1 78 := ⟨by decide +kernel, rfl⟩
theorem eX3_share_78 : Dc cX3_share 78 (.istore 4) 2 80 := ⟨by decide +kernel, rfl⟩
theorem eX3_share_80 : Dc cX3_share 80 (.iload 4) 2 82 := ⟨by decide +kernel, rfl⟩
theorem eX3_share_82 : Dc cX3_share 82 (.iload_n 1) 1 83 := ⟨by decide +kernel, rfl⟩
theorem eX3_share_83 : Dc cX3_share 83 (.if_icmp .gt 35) 3 86 := ⟨by decide +kernel, rfl⟩
theorem eX3_share_86 : Dc cX3_share 86 (.aload_n 0) 1 87 := ⟨by decide +kernel, rfl⟩
theorem eX3_share_87 : Dc cX3_share 87 (.getfield 15) 3 90 := ⟨by decide +kernel, rfl⟩
theorem eX3_share_90 : Dc cX3_share 90 (.iload_n 3) 1 91 := ⟨by decide +kernel, rfl⟩
theorem eX3_share_91 : Dc cX3_share 91 (.bipush 41) 2 93 := ⟨by decide +kernel, rfl⟩
theorem eX3_share_93 : Dc cX3_share 93 (.imul) 1 94 := ⟨by decide +kernel, rfl⟩
theorem eX3_share_94 : Dc cX3_share 94 (.iload 4) 2 96 := ⟨by decide +kernel, rfl⟩
theorem eX3_share_96 : Dc cX3_share 96 (.iadd) 1 97 := ⟨by decide +kernel, rfl⟩
theorem eX3_share_97 : Dc cX3_share 97 (.aload_n 0) 1 98 := ⟨by decide +kernel, rfl⟩
theorem eX3_share_98 : Dc cX3_share 98 (.iload_n 3) 1 99 := ⟨by decide +kernel, rfl⟩
theorem eX3_share_99 : Dc cX3_share 99 (.iload 4) 2 101 := ⟨by decide +kernel, rfl⟩
theorem eX3_share_101 : Dc cX3_share 101 (.aload_n 0) 1 102 := ⟨by decide +kernel, rfl⟩
theorem eX3_share_102 : Dc cX3_share 102 (.iload_n 3) 1 103 := ⟨by decide +kernel, rfl⟩
theorem eX3_share_103 : Dc cX3_share 103 (.iload 4) 2 105 := ⟨by decide +kernel, rfl⟩
theorem eX3_share_105 : Dc cX3_share 105 (.invokevirtual 46) 3 108 := ⟨by decide +kernel, rfl⟩
theorem eX3_share_108 : Dc cX3_share 108 (.invokevirtual 50) 3 111 := ⟨by decide +kernel, rfl⟩
theorem eX3_share_111 : Dc cX3_share 111 (.iastore) 1 112 := ⟨by decide +kernel, rfl⟩
theorem eX3_share_112 : Dc cX3_share 112 (.iinc 4 1) 3 115 := ⟨by decide +kernel, rfl⟩
theorem eX3_share_115 : Dc cX3_share 115 (.goto (-35)) 3 118 := ⟨by decide +kernel, rfl⟩
theorem eX3_share_118 : Dc cX3_share 118 (.iinc 3 (-1)) 3 121 := ⟨by decide +kernel, rfl⟩
theorem eX3_share_121 : Dc cX3_share 121 (.goto (-92)) 3 124 := ⟨by decide +kernel, rfl⟩
theorem eX3_share_124 : Dc cX3_share 124 (.aload_n 0) 1 125 := ⟨by decide +kernel, rfl⟩
theorem eX3_share_125 : Dc cX3_share 125 (.getfield 15) 3 128 := ⟨by decide +kernel, rfl⟩
theorem eX3_share_128 : Dc cX3_share 128 (.iload_n 1) 1 129 := ⟨by decide +kernel, rfl⟩
theorem eX3_share_129 : Dc cX3_share 129 (.iaload) 1 130 := ⟨by decide +kernel, rfl⟩
theorem eX3_share_130 : Dc cX3_share 130 (.ireturn) 1 131 := ⟨by decide +kernel, rfl⟩
def fX3_share_L2 (k : SS → Option (Int32 × SS)) (a1 : Int32) (a2 : Int32) : Nat → Int32 → SS → Option (Int32 × SS)
  | 0, _, _ => none
  | n + 1, a3, c => if a1 < a3 then k c else ckb 328 ((a2 * (41 : Int32)) + a3) (fX3_share_L2 k a1 a2 n (a3 + (1 : Int32)) (sA c 14 (((a2 * (41 : Int32)) + a3)).toNatClampNeg (0 : Int32)))
def fX3_share_L80 (k : SS → Option (Int32 × SS)) (a1 : Int32) (a3 : Int32) : Nat → Int32 → SS → Option (Int32 × SS)
  | 0, _, _ => none
  | n + 1, a4, c => if a1 < a4 then k c else Option.bind (fX3_fewestOfBest c a3 a4) (fun q9 => Option.bind (fX3_scoreOf c a3 a4 q9) (fun q10 => ckb 328 ((a3 * (41 : Int32)) + a4) (fX3_share_L80 k a1 a3 n (a4 + (1 : Int32)) (sA c 14 (((a3 * (41 : Int32)) + a4)).toNatClampNeg q10))))
def fX3_share_L29 (k : SS → Option (Int32 × SS)) (a1 : Int32) : Nat → Int32 → SS → Option (Int32 × SS)
  | 0, _, _ => none
  | n + 1, a3, c => if a3 < (0 : Int32) then k c else Option.bind (fX5_comeIn c a3) (fun q5 => Option.bind (fX2_wantGood c q5 (c.1 3)) (fun q6 => Option.bind (fX2_spendExactly_19 q6 (q6.1 3) (a3 * (10 : Int32))) (fun q7 => fX3_share_L80 (fun (c12 : SS) => fX3_share_L29 k a1 n (a3 + (-1 : Int32)) c12) a1 a3 fu (0 : Int32) q7)))
def fX3_share (c : SS) (p1 : Int32) (p2 : Int32) : Option (Int32 × SS) := fX3_share_L2 (fun (c3 : SS) => fX3_share_L29 (fun (c13 : SS) => ald 328 (c13.2 14) p1 (fun v14 => some (v14, c13))) p1 fu (p2 - (1 : Int32)) c3) p1 p2 fu (0 : Int32) c
set_option maxRecDepth 20000 in
theorem ctX3_share_L2 (l : Launch) (G : tg_G) (A : Nat → Nat) (k : SS → Option (Int32 × SS)) (a1 : Int32) (a2 : Int32) {z : Int32 × SS} (hk : ∀ (ec : SS), k ec = some z → V l G (tg_Zm G (fun v w1 => v = some (.int z.1) ∧ w1 = wC G A z.2) 0 0) tg_E0 (tg_R 3 71) "TramGod$Purse" "share" cX3_share 5 (some .int) 25 [(0, .ref (A 18)), (1, .int a1), (2, .int a2)] [] (wC G A ec) 0 0) : ∀ (n : Nat) (a3 : Int32) (c : SS), fX3_share_L2 k a1 a2 n a3 c = some z → V l G (tg_Zm G (fun v w1 => v = some (.int z.1) ∧ w1 = wC G A z.2) 0 0) tg_E0 (tg_R 3 71) "TramGod$Purse" "share" cX3_share 5 (some .int) 2 [(0, .ref (A 18)), (1, .int a1), (2, .int a2), (3, .int a3)] [] (wC G A c) 0 0 := by
  intro n
  induction n with
  | zero => intro a3 c h; exact absurd h (by simp [fX3_share_L2])
  | succ n ih =>
    intro a3 c h
    unfold fX3_share_L2 at h
    refine V_iload_n eX3_share_2 3 rfl ?_
    refine V_iload_n eX3_share_3 1 rfl ?_
    refine V_icmp_gt (tgt := 25) eX3_share_4 rfl (fun hb1 => ?_) (fun hb1 => ?_)
    · replace h := (if_pos hb1).symm.trans h
      refine V_lv (lv' := [(0, .ref (A 18)), (1, .int a1), (2, .int a2)]) [0, 1, 2] rfl ?_
      exact hk c h
    · replace h := (if_neg hb1).symm.trans h
      refine V_aload_n eX3_share_7 0 rfl ?_
      refine V_get (v := .ref (A 20)) eX3_share_8 inX3 18 rfl rfl 3 (Nat.le_of_ble_eq_true rfl) tw_162 rfl ?_
      refine V_iload_n eX3_share_11 2 rfl ?_
      refine V_bipush (v := (41 : Int32)) eX3_share_12 rfl ?_
      refine V_imul eX3_share_14 ?_
      refine V_iload_n eX3_share_15 3 rfl ?_
      refine V_iadd eX3_share_16 ?_
      refine V_iconst (v := (0 : Int32)) eX3_share_17 rfl ?_
      obtain ⟨hi2, h⟩ := ckb_some h
      refine V_iast (w' := wC G A (sA c 14 (((a2 * (41 : Int32)) + a3)).toNatClampNeg (0 : Int32))) eX3_share_18 20 rfl hi2 rfl ?_
      refine V_iinc (v := (a3 + (1 : Int32))) (lv' := [(3, .int (a3 + (1 : Int32))), (0, .ref (A 18)), (1, .int a1), (2, .int a2)]) eX3_share_19 3 rfl rfl (Nat.le_of_ble_eq_true rfl) rfl ?_
      refine V_goto (tgt := 2) eX3_share_22 rfl ?_
      refine V_lv (lv' := [(0, .ref (A 18)), (1, .int a1), (2, .int a2), (3, .int (a3 + (1 : Int32)))]) [1, 2, 3, 0] rfl ?_
      exact ih (a3 + (1 : Int32)) (sA c 14 (((a2 * (41 : Int32)) + a3)).toNatClampNeg (0 : Int32)) h
set_option maxRecDepth 20000 in
theorem ctX3_share_L80 (l : Launch) (G : tg_G) (A : Nat → Nat) (k : SS → Option (Int32 × SS)) (a1 : Int32) (a3 : Int32) {z : Int32 × SS} (hk : ∀ (ec : SS), k ec = some z → V l G (tg_Zm G (fun v w1 => v = some (.int z.1) ∧ w1 = wC G A z.2) 0 0) tg_E0 (tg_R 3 71) "TramGod$Purse" "share" cX3_share 5 (some .int) 118 [(0, .ref (A 18)), (1, .int a1), (3, .int a3)] [] (wC G A ec) 0 0) : ∀ (n : Nat) (a4 : Int32) (c : SS), fX3_share_L80 k a1 a3 n a4 c = some z → V l G (tg_Zm G (fun v w1 => v = some (.int z.1) ∧ w1 = wC G A z.2) 0 0) tg_E0 (tg_R 3 71) "TramGod$Purse" "share" cX3_share 5 (some .int) 80 [(0, .ref (A 18)), (1, .int a1), (3, .int a3), (4, .int a4)] [] (wC G A c) 0 0 := by
  intro n
  induction n with
  | zero => intro a4 c h; exact absurd h (by simp [fX3_share_L80])
  | succ n ih =>
    intro a4 c h
    unfold fX3_share_L80 at h
    refine V_iload eX3_share_80 3 rfl ?_
    refine V_iload_n eX3_share_82 1 rfl ?_
    refine V_icmp_gt (tgt := 118) eX3_share_83 rfl (fun hb8 => ?_) (fun hb8 => ?_)
    · replace h := (if_pos hb8).symm.trans h
      refine V_lv (lv' := [(0, .ref (A 18)), (1, .int a1), (3, .int a3)]) [0, 1, 2] rfl ?_
      exact hk c h
    · replace h := (if_neg hb8).symm.trans h
      refine V_aload_n eX3_share_86 0 rfl ?_
      refine V_get (v := .ref (A 20)) eX3_share_87 inX3 18 rfl rfl 3 (Nat.le_of_ble_eq_true rfl) tw_162 rfl ?_
      refine V_iload_n eX3_share_90 2 rfl ?_
      refine V_bipush (v := (41 : Int32)) eX3_share_91 rfl ?_
      refine V_imul eX3_share_93 ?_
      refine V_iload eX3_share_94 3 rfl ?_
      refine V_iadd eX3_share_96 ?_
      refine V_aload_n eX3_share_97 0 rfl ?_
      refine V_iload_n eX3_share_98 2 rfl ?_
      refine V_iload eX3_share_99 3 rfl ?_
      refine V_aload_n eX3_share_101 0 rfl ?_
      refine V_iload_n eX3_share_102 2 rfl ?_
      refine V_iload eX3_share_103 3 rfl ?_
      obtain ⟨q9, hc9, h⟩ := Option.bind_eq_some_iff.mp h
      refine V_callVi (rest := [.int a4, .int a3, .ref (A 18), .int ((a3 * (41 : Int32)) + a4), .ref (A 20)]) eX3_share_105 (ctX3_fewestOfBest l G A c a3 a4 hc9) tc_493 tw_490 tw_6 tw_492 ts_13 18 rfl rfl hdX3_fewestOfBest rfl ⟨Nat.le_of_ble_eq_true rfl, Nat.le_of_ble_eq_true rfl⟩ rfl (Nat.le_of_ble_eq_true rfl) ⟨Nat.zero_le _, Nat.zero_le _⟩ ?_
      obtain ⟨q10, hc10, h⟩ := Option.bind_eq_some_iff.mp h
      refine V_callVi (rest := [.int ((a3 * (41 : Int32)) + a4), .ref (A 20)]) eX3_share_108 (ctX3_scoreOf l G A c a3 a4 q9 hc10) tc_498 tw_495 tw_6 tw_497 ts_14 18 rfl rfl hdX3_scoreOf rfl ⟨Nat.le_of_ble_eq_true rfl, Nat.le_of_ble_eq_true rfl⟩ rfl (Nat.le_of_ble_eq_true rfl) ⟨Nat.zero_le _, Nat.zero_le _⟩ ?_
      obtain ⟨hi11, h⟩ := ckb_some h
      refine V_iast (w' := wC G A (sA c 14 (((a3 * (41 : Int32)) + a4)).toNatClampNeg q10)) eX3_share_111 20 rfl hi11 rfl ?_
      refine V_iinc (v := (a4 + (1 : Int32))) (lv' := [(4, .int (a4 + (1 : Int32))), (0, .ref (A 18)), (1, .int a1), (3, .int a3)]) eX3_share_112 3 rfl rfl (Nat.le_of_ble_eq_true rfl) rfl ?_
      refine V_goto (tgt := 80) eX3_share_115 rfl ?_
      refine V_lv (lv' := [(0, .ref (A 18)), (1, .int a1), (3, .int a3), (4, .int (a4 + (1 : Int32)))]) [1, 2, 3, 0] rfl ?_
      exact ih (a4 + (1 : Int32)) (sA c 14 (((a3 * (41 : Int32)) + a4)).toNatClampNeg q10) h
set_option maxRecDepth 20000 in
theorem ctX3_share_L29 (l : Launch) (G : tg_G) (A : Nat → Nat) (k : SS → Option (Int32 × SS)) (a1 : Int32) {z : Int32 × SS} (hk : ∀ (ec : SS), k ec = some z → V l G (tg_Zm G (fun v w1 => v = some (.int z.1) ∧ w1 = wC G A z.2) 0 0) tg_E0 (tg_R 3 71) "TramGod$Purse" "share" cX3_share 5 (some .int) 124 [(0, .ref (A 18)), (1, .int a1)] [] (wC G A ec) 0 0) : ∀ (n : Nat) (a3 : Int32) (c : SS), fX3_share_L29 k a1 n a3 c = some z → V l G (tg_Zm G (fun v w1 => v = some (.int z.1) ∧ w1 = wC G A z.2) 0 0) tg_E0 (tg_R 3 71) "TramGod$Purse" "share" cX3_share 5 (some .int) 29 [(0, .ref (A 18)), (1, .int a1), (3, .int a3)] [] (wC G A c) 0 0 := by
  intro n
  induction n with
  | zero => intro a3 c h; exact absurd h (by simp [fX3_share_L29])
  | succ n ih =>
    intro a3 c h
    unfold fX3_share_L29 at h
    refine V_iload_n eX3_share_29 2 rfl ?_
    refine V_if_lt (tgt := 124) eX3_share_30 rfl (fun hb4 => ?_) (fun hb4 => ?_)
    · replace h := (if_pos hb4).symm.trans h
      refine V_lv (lv' := [(0, .ref (A 18)), (1, .int a1)]) [0, 1] rfl ?_
      exact hk c h
    · replace h := (if_neg hb4).symm.trans h
      refine V_aload_n eX3_share_33 0 rfl ?_
      refine V_get (v := .ref (A 13)) eX3_share_34 inX3 18 rfl rfl 1 (Nat.le_of_ble_eq_true rfl) tw_160 rfl ?_
      refine V_aload_n eX3_share_37 0 rfl ?_
      refine V_get (v := .ref (A 3)) eX3_share_38 inX3 18 rfl rfl 0 (Nat.le_of_ble_eq_true rfl) tw_159 rfl ?_
      refine V_iload_n eX3_share_41 2 rfl ?_
      obtain ⟨q5, hc5, h⟩ := Option.bind_eq_some_iff.mp h
      refine V_callVi (rest := [.ref (A 13)]) eX3_share_42 (ctX5_comeIn l G A c a3 hc5) tc_482 tw_479 tw_3 tw_480 tw_481 3 rfl rfl hdX5_comeIn rfl ⟨Nat.le_of_ble_eq_true rfl, Nat.le_of_ble_eq_true rfl⟩ rfl (Nat.le_of_ble_eq_true rfl) ⟨Nat.zero_le _, Nat.zero_le _⟩ ?_
      refine V_aload_n eX3_share_45 0 rfl ?_
      refine V_get (v := .ref (A 3)) eX3_share_46 inX3 18 rfl rfl 0 (Nat.le_of_ble_eq_true rfl) tw_159 rfl ?_
      refine V_get (v := .int (c.1 3)) eX3_share_49 inX5 3 rfl rfl 2 (Nat.le_of_ble_eq_true rfl) tw_49 rfl ?_
      obtain ⟨q6, hc6, h⟩ := Option.bind_eq_some_iff.mp h
      refine V_callVv (rest := []) eX3_share_52 (ctX2_wantGood l G A c q5 (c.1 3) hc6) tc_414 tw_484 tw_5 tw_412 tw_413 13 rfl rfl hdX2_wantGood rfl ⟨Nat.le_of_ble_eq_true rfl, Nat.le_of_ble_eq_true rfl⟩ rfl (Nat.le_of_ble_eq_true rfl) ⟨Nat.zero_le _, Nat.zero_le _⟩ ?_
      refine V_aload_n eX3_share_55 0 rfl ?_
      refine V_get (v := .ref (A 13)) eX3_share_56 inX3 18 rfl rfl 1 (Nat.le_of_ble_eq_true rfl) tw_160 rfl ?_
      refine V_aload_n eX3_share_59 0 rfl ?_
      refine V_get (v := .ref (A 3)) eX3_share_60 inX3 18 rfl rfl 0 (Nat.le_of_ble_eq_true rfl) tw_159 rfl ?_
      refine V_get (v := .int (q6.1 3)) eX3_share_63 inX5 3 rfl rfl 2 (Nat.le_of_ble_eq_true rfl) tw_49 rfl ?_
      refine V_aload_n eX3_share_66 0 rfl ?_
      refine V_get (v := .ref (A 19)) eX3_share_67 inX3 18 rfl rfl 2 (Nat.le_of_ble_eq_true rfl) tw_161 rfl ?_
      refine V_iload_n eX3_share_70 2 rfl ?_
      refine V_bipush (v := (10 : Int32)) eX3_share_71 rfl ?_
      refine V_imul eX3_share_73 ?_
      obtain ⟨q7, hc7, h⟩ := Option.bind_eq_some_iff.mp h
      refine V_callVv (rest := []) eX3_share_74 (ctX2_spendExactly_19 l G A q6 (q6.1 3) (a3 * (10 : Int32)) hc7) tc_488 tw_485 tw_5 tw_486 tw_487 13 rfl rfl hdX2_spendExactly rfl ⟨Nat.le_of_ble_eq_true rfl, Nat.le_of_ble_eq_true rfl⟩ rfl (Nat.le_of_ble_eq_true rfl) ⟨Nat.zero_le _, Nat.zero_le _⟩ ?_
      refine V_iconst (v := (0 : Int32)) eX3_share_77 rfl ?_
      refine V_istore (lv' := [(4, .int (0 : Int32)), (0, .ref (A 18)), (1, .int a1), (3, .int a3)]) eX3_share_78 (Nat.le_of_ble_eq_true rfl) rfl ?_
      refine V_lv (lv' := [(0, .ref (A 18)), (1, .int a1), (3, .int a3), (4, .int (0 : Int32))]) [1, 2, 3, 0] rfl ?_
      refine ctX3_share_L80 l G A _ a1 a3 ?_ fu (0 : Int32) q7 h
      · intro c12 h
        refine V_iinc (v := (a3 + (-1 : Int32))) (lv' := [(3, .int (a3 + (-1 : Int32))), (0, .ref (A 18)), (1, .int a1)]) eX3_share_118 2 rfl rfl (Nat.le_of_ble_eq_true rfl) rfl ?_
        refine V_goto (tgt := 29) eX3_share_121 rfl ?_
        refine V_lv (lv' := [(0, .ref (A 18)), (1, .int a1), (3, .int (a3 + (-1 : Int32)))]) [1, 2, 0] rfl ?_
        exact ih (a3 + (-1 : Int32)) c12 h
set_option maxRecDepth 20000 in
theorem ctX3_share (l : Launch) (G : tg_G) (A : Nat → Nat) (c : SS) (p1 : Int32) (p2 : Int32) {z : Int32 × SS} (h : fX3_share c p1 p2 = some z) : Mt l G yX3_share cX3_share 5 (some .int) (tg_R 3 71) [.ref (A 18), .int p1, .int p2] (wC G A c) (fun v w1 => v = some (.int z.1) ∧ w1 = wC G A z.2) := by
  refine Mt_of2 (own := "TramGod$Purse") (nm := "share") rfl rfl rfl (Nat.le_of_ble_eq_true rfl) (lv := [(0, .ref (A 18)), (1, .int p1), (2, .int p2)]) rfl ?_
  unfold fX3_share at h
  refine V_iconst (v := (0 : Int32)) eX3_share_0 rfl ?_
  refine V_istore_n (lv' := [(3, .int (0 : Int32)), (0, .ref (A 18)), (1, .int p1), (2, .int p2)]) eX3_share_1 (Nat.le_of_ble_eq_true rfl) rfl ?_
  refine V_lv (lv' := [(0, .ref (A 18)), (1, .int p1), (2, .int p2), (3, .int (0 : Int32))]) [1, 2, 3, 0] rfl ?_
  refine ctX3_share_L2 l G A _ p1 p2 ?_ fu (0 : Int32) c h
  · intro c3 h
    refine V_iload_n eX3_share_25 2 rfl ?_
    refine V_iconst (v := (1 : Int32)) eX3_share_26 rfl ?_
    refine V_isub eX3_share_27 ?_
    refine V_istore_n (lv' := [(3, .int (p2 - (1 : Int32))), (0, .ref (A 18)), (1, .int p1), (2, .int p2)]) eX3_share_28 (Nat.le_of_ble_eq_true rfl) rfl ?_
    refine V_lv (lv' := [(0, .ref (A 18)), (1, .int p1), (3, .int (p2 - (1 : Int32)))]) [1, 2, 0] rfl ?_
    refine ctX3_share_L29 l G A _ p1 ?_ fu (p2 - (1 : Int32)) c3 h
    · intro c13 h
      refine V_aload_n eX3_share_124 0 rfl ?_
      refine V_get (v := .ref (A 20)) eX3_share_125 inX3 18 rfl rfl 3 (Nat.le_of_ble_eq_true rfl) tw_162 rfl ?_
      refine V_iload_n eX3_share_128 1 rfl ?_
      obtain ⟨v14, hi14, ev14, h⟩ := ald_some h
      refine V_ialdv eX3_share_129 20 rfl hi14 ev14 ?_
      obtain rfl := Option.some.inj h
      exact V_ret eX3_share_130 rfl ⟨rfl, rfl⟩
theorem hdX3_spentIn : yX3_spentIn.cls ≠ "java/lang/invoke/MethodHandle" ∧ yX3_spentIn.cls ≠ "java/lang/invoke/VarHandle" ∧ (parseMethodDescriptor yX3_spentIn.desc).map (fun d => d.parameters.length) = some 2 := by decide +kernel
theorem eX3_spentIn_0 : Dc cX3_spentIn 0 (.iload_n 2) 1 1 := ⟨by decide +kernel, rfl⟩
theorem eX3_spentIn_1 : Dc cX3_spentIn 1 (.istore_n 3) 1 2 := ⟨by decide +kernel, rfl⟩
theorem eX3_spentIn_2 : Dc cX3_spentIn 2 (.iconst 0) 1 3 := ⟨by decide +kernel, rfl⟩
theorem eX3_spentIn_3 : Dc cX3_spentIn 3 (.istore 4) 2 5 := ⟨by decide +kernel, rfl⟩
theorem eX3_spentIn_5 : Dc cX3_spentIn 5 (.iconst 0) 1 6 := ⟨by decide +kernel, rfl⟩
theorem eX3_spentIn_6 : Dc cX3_spentIn 6 (.istore 5) 2 8 := ⟨by decide +kernel, rfl⟩
theorem eX3_spentIn_8 : Dc cX3_spentIn 8 (.iload 5) 2 10 := ⟨by decide +kernel, rfl⟩
theorem eX3_spentIn_10 : Dc cX3_spentIn 10 (.iload_n 1) 1 11 := ⟨by decide +kernel, rfl⟩
theorem eX3_spentIn_11 : Dc cX3_spentIn 11 (.if_icmp .gt 30) 3 14 := ⟨by decide +kernel, rfl⟩
theorem eX3_spentIn_14 : Dc cX3_spentIn 14 (.iload 5) 2 16 := ⟨by decide +kernel, rfl⟩
theorem eX3_spentIn_16 : Dc cX3_spentIn 16 (.bipush 7) 2 18 := ⟨by decide +kernel, rfl⟩
theorem eX3_spentIn_18 : Dc cX3_spentIn 18 (.if_icmp .ge 23) 3 21 := ⟨by decide +kernel, rfl⟩
theorem eX3_spentIn_21 : Dc cX3_spentIn 21 (.aload_n 0) 1 22 := ⟨by decide +kernel, rfl⟩
theorem eX3_spentIn_22 : Dc cX3_spentIn 22 (.iload 5) 2 24 := ⟨by decide +kernel, rfl⟩
theorem eX3_spentIn_24 : Dc cX3_spentIn 24 (.iload_n 3) 1 25 := ⟨by decide +kernel, rfl⟩
theorem eX3_spentIn_25 : Dc cX3_spentIn 25 (.invokevirtual 46) 3 28 := ⟨by decide +kernel, rfl⟩
theorem eX3_spentIn_28 : Dc cX3_spentIn 28 (.istore 4) 2 30 := ⟨by decide +kernel, rfl⟩
theorem eX3_spentIn_30 : Dc cX3_spentIn 30 (.iload_n 3) 1 31 := ⟨by decide +kernel, rfl⟩
theorem eX3_spentIn_31 : Dc cX3_spentIn 31 (.iload 4) 2 33 := ⟨by decide +kernel, rfl⟩
theorem eX3_spentIn_33 : Dc cX3_spentIn 33 (.isub) 1 34 := ⟨by decide +kernel, rfl⟩
theorem eX3_spentIn_34 : Dc cX3_spentIn 34 (.istore_n 3) 1 35 := ⟨by decide +kernel, rfl⟩
theorem eX3_spentIn_35 : Dc cX3_spentIn 35 (.iinc 5 1) 3 38 := ⟨by decide +kernel, rfl⟩
theorem eX3_spentIn_38 : Dc cX3_spentIn 38 (.goto (-30)) 3 41 := ⟨by decide +kernel, rfl⟩
theorem eX3_spentIn_41 : Dc cX3_spentIn 41 (.iload 4) 2 43 := ⟨by decide +kernel, rfl⟩
theorem eX3_spentIn_43 : Dc cX3_spentIn 43 (.ireturn) 1 44 := ⟨by decide +kernel, rfl⟩
def fX3_spentIn_L8  (c : SS) (a1 : Int32) : Nat → Int32 → Int32 → Int32 → Option (Int32)
  | 0, _, _, _ => none
  | n + 1, a3, a4, a5 => if a1 < a5 then some a4 else if (7 : Int32) ≤ a5 then some a4 else Option.bind (fX3_fewestOfBest c a5 a3) (fun q3 => fX3_spentIn_L8 c a1 n (a3 - q3) q3 (a5 + (1 : Int32)))
def fX3_spentIn (c : SS) (p1 : Int32) (p2 : Int32) : Option (Int32) := fX3_spentIn_L8 c p1 fu p2 (0 : Int32) (0 : Int32)
set_option maxRecDepth 20000 in
theorem ctX3_spentIn_L8 (l : Launch) (G : tg_G) (A : Nat → Nat)  (c : SS) (a1 : Int32) {z : Int32}  : ∀ (n : Nat) (a3 : Int32) (a4 : Int32) (a5 : Int32), fX3_spentIn_L8 c a1 n a3 a4 a5 = some z → V l G (tg_Zm G (fun v w1 => v = some (.int z) ∧ w1 = wC G A c) 0 0) tg_E0 (tg_R 2 50) "TramGod$Purse" "spentIn" cX3_spentIn 6 (some .int) 8 [(0, .ref (A 18)), (1, .int a1), (3, .int a3), (4, .int a4), (5, .int a5)] [] (wC G A c) 0 0 := by
  intro n
  induction n with
  | zero => intro a3 a4 a5 h; exact absurd h (by simp [fX3_spentIn_L8])
  | succ n ih =>
    intro a3 a4 a5 h
    unfold fX3_spentIn_L8 at h
    refine V_iload eX3_spentIn_8 4 rfl ?_
    refine V_iload_n eX3_spentIn_10 1 rfl ?_
    refine V_icmp_gt (tgt := 41) eX3_spentIn_11 rfl (fun hb1 => ?_) (fun hb1 => ?_)
    · replace h := (if_pos hb1).symm.trans h
      refine V_iload eX3_spentIn_41 3 rfl ?_
      obtain rfl := Option.some.inj h
      exact V_ret eX3_spentIn_43 rfl ⟨rfl, rfl⟩
    · replace h := (if_neg hb1).symm.trans h
      refine V_iload eX3_spentIn_14 4 rfl ?_
      refine V_bipush (v := (7 : Int32)) eX3_spentIn_16 rfl ?_
      refine V_icmp_ge (tgt := 41) eX3_spentIn_18 rfl (fun hb2 => ?_) (fun hb2 => ?_)
      · replace h := (if_pos hb2).symm.trans h
        refine V_iload eX3_spentIn_41 3 rfl ?_
        obtain rfl := Option.some.inj h
        exact V_ret eX3_spentIn_43 rfl ⟨rfl, rfl⟩
      · replace h := (if_neg hb2).symm.trans h
        refine V_aload_n eX3_spentIn_21 0 rfl ?_
        refine V_iload eX3_spentIn_22 4 rfl ?_
        refine V_iload_n eX3_spentIn_24 2 rfl ?_
        obtain ⟨q3, hc3, h⟩ := Option.bind_eq_some_iff.mp h
        refine V_callVi (rest := []) eX3_spentIn_25 (ctX3_fewestOfBest l G A c a5 a3 hc3) tc_493 tw_490 tw_6 tw_492 ts_13 18 rfl rfl hdX3_fewestOfBest rfl ⟨Nat.le_of_ble_eq_true rfl, Nat.le_of_ble_eq_true rfl⟩ rfl (Nat.le_of_ble_eq_true rfl) ⟨Nat.zero_le _, Nat.zero_le _⟩ ?_
        refine V_istore (lv' := [(4, .int q3), (0, .ref (A 18)), (1, .int a1), (3, .int a3), (5, .int a5)]) eX3_spentIn_28 (Nat.le_of_ble_eq_true rfl) rfl ?_
        refine V_iload_n eX3_spentIn_30 3 rfl ?_
        refine V_iload eX3_spentIn_31 0 rfl ?_
        refine V_isub eX3_spentIn_33 ?_
        refine V_istore_n (lv' := [(3, .int (a3 - q3)), (4, .int q3), (0, .ref (A 18)), (1, .int a1), (5, .int a5)]) eX3_spentIn_34 (Nat.le_of_ble_eq_true rfl) rfl ?_
        refine V_iinc (v := (a5 + (1 : Int32))) (lv' := [(5, .int (a5 + (1 : Int32))), (3, .int (a3 - q3)), (4, .int q3), (0, .ref (A 18)), (1, .int a1)]) eX3_spentIn_35 4 rfl rfl (Nat.le_of_ble_eq_true rfl) rfl ?_
        refine V_goto (tgt := 8) eX3_spentIn_38 rfl ?_
        refine V_lv (lv' := [(0, .ref (A 18)), (1, .int a1), (3, .int (a3 - q3)), (4, .int q3), (5, .int (a5 + (1 : Int32)))]) [3, 4, 1, 2, 0] rfl ?_
        exact ih (a3 - q3) q3 (a5 + (1 : Int32)) h
set_option maxRecDepth 20000 in
theorem ctX3_spentIn (l : Launch) (G : tg_G) (A : Nat → Nat) (c : SS) (p1 : Int32) (p2 : Int32) {z : Int32} (h : fX3_spentIn c p1 p2 = some z) : Mt l G yX3_spentIn cX3_spentIn 6 (some .int) (tg_R 2 50) [.ref (A 18), .int p1, .int p2] (wC G A c) (fun v w1 => v = some (.int z) ∧ w1 = wC G A c) := by
  refine Mt_of2 (own := "TramGod$Purse") (nm := "spentIn") rfl rfl rfl (Nat.le_of_ble_eq_true rfl) (lv := [(0, .ref (A 18)), (1, .int p1), (2, .int p2)]) rfl ?_
  unfold fX3_spentIn at h
  refine V_iload_n eX3_spentIn_0 2 rfl ?_
  refine V_istore_n (lv' := [(3, .int p2), (0, .ref (A 18)), (1, .int p1), (2, .int p2)]) eX3_spentIn_1 (Nat.le_of_ble_eq_true rfl) rfl ?_
  refine V_iconst (v := (0 : Int32)) eX3_spentIn_2 rfl ?_
  refine V_istore (lv' := [(4, .int (0 : Int32)), (3, .int p2), (0, .ref (A 18)), (1, .int p1), (2, .int p2)]) eX3_spentIn_3 (Nat.le_of_ble_eq_true rfl) rfl ?_
  refine V_iconst (v := (0 : Int32)) eX3_spentIn_5 rfl ?_
  refine V_istore (lv' := [(5, .int (0 : Int32)), (4, .int (0 : Int32)), (3, .int p2), (0, .ref (A 18)), (1, .int p1), (2, .int p2)]) eX3_spentIn_6 (Nat.le_of_ble_eq_true rfl) rfl ?_
  refine V_lv (lv' := [(0, .ref (A 18)), (1, .int p1), (3, .int p2), (4, .int (0 : Int32)), (5, .int (0 : Int32))]) [3, 4, 2, 1, 0] rfl ?_
  refine ctX3_spentIn_L8 l G A c p1 fu p2 (0 : Int32) (0 : Int32) h
theorem hdX6_fund : yX6_fund.cls ≠ "java/lang/invoke/MethodHandle" ∧ yX6_fund.cls ≠ "java/lang/invoke/VarHandle" ∧ (parseMethodDescriptor yX6_fund.desc).map (fun d => d.parameters.length) = some 3 := by decide +kernel
theorem eX6_fund_0 : Dc cX6_fund 0 (.iload_n 1) 1 1 := ⟨by decide +kernel, rfl⟩
theorem eX6_fund_1 : Dc cX6_fund 1 (.iconst 0) 1 2 := ⟨by decide +kernel, rfl⟩
theorem eX6_fund_2 : Dc cX6_fund 2 (.bipush 40) 2 4 := ⟨by decide +kernel, rfl⟩
theorem eX6_fund_4 : Dc cX6_fund 4 (.invokestatic 68) 3 7 := ⟨by decide +kernel, rfl⟩
theorem eX6_fund_7 : Dc cX6_fund 7 (.ifCond .eq 24) 3 10 := ⟨by decide +kernel, rfl⟩
theorem eX6_fund_10 : Dc cX6_fund 10 (.iload_n 2) 1 11 := ⟨by decide +kernel, rfl⟩
theorem eX6_fund_11 : Dc cX6_fund 11 (.iconst 1) 1 12 := ⟨by decide +kernel, rfl⟩
theorem eX6_fund_12 : Dc cX6_fund 12 (.bipush 7) 2 14 := ⟨by decide +kernel, rfl⟩
theorem eX6_fund_14 : Dc cX6_fund 14 (.invokestatic 68) 3 17 := ⟨by decide +kernel, rfl⟩
theorem eX6_fund_17 : Dc cX6_fund 17 (.ifCond .eq 14) 3 20 := ⟨by decide +kernel, rfl⟩
theorem eX6_fund_20 : Dc cX6_fund 20 (.iload_n 3) 1 21 := ⟨by decide +kernel, rfl⟩
theorem eX6_fund_21 : Dc cX6_fund 21 (.iconst (-1)) 1 22 := ⟨by decide +kernel, rfl⟩
theorem eX6_fund_22 : Dc cX6_fund 22 (.iload_n 2) 1 23 := ⟨by decide +kernel, rfl⟩
theorem eX6_fund_23 : Dc cX6_fund 23 (.iconst 1) 1 24 := ⟨by decide +kernel, rfl⟩
theorem eX6_fund_24 : Dc cX6_fund 24 (.isub) 1 25 := ⟨by decide +kernel, rfl⟩
theorem eX6_fund_25 : Dc cX6_fund 25 (.invokestatic 68) 3 28 := ⟨by decide +kernel, rfl⟩
theorem eX6_fund_28 : Dc cX6_fund 28 (.ifCond .ne 6) 3 31 := ⟨by decide +kernel, rfl⟩
theorem eX6_fund_31 : Dc cX6_fund 31 (.bipush (-2)) 2 33 := ⟨by decide +kernel, rfl⟩
theorem eX6_fund_33 : Dc cX6_fund 33 (.ireturn) 1 34 := ⟨by decide +kernel, rfl⟩
theorem eX6_fund_34 : Dc cX6_fund 34 (.aload_n 0) 1 35 := ⟨by decide +kernel, rfl⟩
theorem eX6_fund_35 : Dc cX6_fund 35 (.getfield 32) 3 38 := ⟨by decide +kernel, rfl⟩
theorem eX6_fund_38 : Dc cX6_fund 38 (.aload_n 0) 1 39 := ⟨by decide +kernel, rfl⟩
theorem eX6_fund_39 : Dc cX6_fund 39 (.getfield 19) 3 42 := ⟨by decide +kernel, rfl⟩
theorem eX6_fund_42 : Dc cX6_fund 42 (.getfield 94) 3 45 := ⟨by decide +kernel, rfl⟩
theorem eX6_fund_45 : Dc cX6_fund 45 (.invokevirtual 182) 3 48 := ⟨by decide +kernel, rfl⟩
theorem eX6_fund_48 : Dc cX6_fund 48 (.aload_n 0) 1 49 := ⟨by decide +kernel, rfl⟩
theorem eX6_fund_49 : Dc cX6_fund 49 (.getfield 50) 3 52 := ⟨by decide +kernel, rfl⟩
theorem eX6_fund_52 : Dc cX6_fund 52 (.iload_n 1) 1 53 := ⟨by decide +kernel, rfl⟩
theorem eX6_fund_53 : Dc cX6_fund 53 (.iload_n 2) 1 54 := ⟨by decide +kernel, rfl⟩
theorem eX6_fund_54 : Dc cX6_fund 54 (.invokevirtual 186) 3 57 := ⟨by decide +kernel, rfl⟩
theorem eX6_fund_57 : Dc cX6_fund 57 (.istore 4) 2 59 := ⟨by decide +kernel, rfl⟩
theorem eX6_fund_59 : Dc cX6_fund 59 (.iload_n 3) 1 60 := ⟨by decide +kernel, rfl⟩
theorem eX6_fund_60 : Dc cX6_fund 60 (.iconst (-1)) 1 61 := ⟨by decide +kernel, rfl⟩
theorem eX6_fund_61 : Dc cX6_fund 61 (.if_icmp .ne 12) 3 64 := ⟨by decide +kernel, rfl⟩
theorem eX6_fund_64 : Dc cX6_fund 64 (.iload 4) 2 66 := ⟨by decide +kernel, rfl⟩
theorem eX6_fund_66 : Dc cX6_fund 66 (.sipush 10000) 3 69 := ⟨by decide +kernel, rfl⟩
theorem eX6_fund_69 : Dc cX6_fund 69 (.iadd) 1 70 := ⟨by decide +kernel, rfl⟩
theorem eX6_fund_70 : Dc cX6_fund 70 (.goto 12) 3 73 := ⟨by decide +kernel, rfl⟩
theorem eX6_fund_73 : Dc cX6_fund 73 (.aload_n 0) 1 74 := ⟨by decide +kernel, rfl⟩
theorem eX6_fund_74 : Dc cX6_fund 74 (.getfield 50) 3 77 := ⟨by decide +kernel, rfl⟩
theorem eX6_fund_77 : Dc cX6_fund 77 (.iload_n 3) 1 78 := ⟨by decide +kernel, rfl⟩
theorem eX6_fund_78 : Dc cX6_fund 78 (.iload_n 1) 1 79 := ⟨by decide +kernel, rfl⟩
theorem eX6_fund_79 : Dc cX6_fund 79 (.invokevirtual 189) 3 82 := ⟨by decide +kernel, rfl⟩
theorem eX6_fund_82 : Dc cX6_fund 82 (.ireturn) 1 83 := ⟨by decide +kernel, rfl⟩
def fX6_fund (c : SS) (p1 : Int32) (p2 : Int32) (p3 : Int32) : Option (Int32 × SS) := if (fX6_within p1 (0 : Int32) (40 : Int32)) = (0 : Int32) then some ((-2 : Int32), c) else if (fX6_within p2 (1 : Int32) (7 : Int32)) = (0 : Int32) then some ((-2 : Int32), c) else if (fX6_within p3 (-1 : Int32) (p2 - (1 : Int32))) = (0 : Int32) then some ((-2 : Int32), c) else Option.bind (fX4_measure c (c.1 2)) (fun q4 => Option.bind (fX3_share q4 p1 p2) (fun q5 => if p3 = (-1 : Int32) then some ((q5.1 + (10000 : Int32)), q5.2) else Option.bind (fX3_spentIn q5.2 p3 p1) (fun q7 => some (q7, q5.2))))
set_option maxRecDepth 20000 in
theorem ctX6_fund (l : Launch) (G : tg_G) (A : Nat → Nat) (c : SS) (p1 : Int32) (p2 : Int32) (p3 : Int32) {z : Int32 × SS} (h : fX6_fund c p1 p2 p3 = some z) : Mt l G yX6_fund cX6_fund 5 (some .int) (tg_R 4 95) [.ref (A 0), .int p1, .int p2, .int p3] (wC G A c) (fun v w1 => v = some (.int z.1) ∧ w1 = wC G A z.2) := by
  refine Mt_of2 (own := "TramGod") (nm := "fund") rfl rfl rfl (Nat.le_of_ble_eq_true rfl) (lv := [(0, .ref (A 0)), (1, .int p1), (2, .int p2), (3, .int p3)]) rfl ?_
  unfold fX6_fund at h
  refine V_iload_n eX6_fund_0 1 rfl ?_
  refine V_iconst (v := (0 : Int32)) eX6_fund_1 rfl ?_
  refine V_bipush (v := (40 : Int32)) eX6_fund_2 rfl ?_
  refine V_callSi (rest := []) eX6_fund_4 (ctX6_within l G _ p1 (0 : Int32) (40 : Int32) rfl) tc_241 tw_239 tw_1 tw_240 hdX6_within rfl ⟨Nat.le_of_ble_eq_true rfl, Nat.le_of_ble_eq_true rfl⟩ rfl (Nat.le_of_ble_eq_true rfl) ⟨Nat.zero_le _, Nat.zero_le _⟩ ?_
  refine V_if_eq (tgt := 31) eX6_fund_7 rfl (fun hb1 => ?_) (fun hb1 => ?_)
  · replace h := (if_pos hb1).symm.trans h
    refine V_bipush (v := (-2 : Int32)) eX6_fund_31 rfl ?_
    obtain rfl := Option.some.inj h
    exact V_ret eX6_fund_33 rfl ⟨rfl, rfl⟩
  · replace h := (if_neg hb1).symm.trans h
    refine V_iload_n eX6_fund_10 2 rfl ?_
    refine V_iconst (v := (1 : Int32)) eX6_fund_11 rfl ?_
    refine V_bipush (v := (7 : Int32)) eX6_fund_12 rfl ?_
    refine V_callSi (rest := []) eX6_fund_14 (ctX6_within l G _ p2 (1 : Int32) (7 : Int32) rfl) tc_241 tw_239 tw_1 tw_240 hdX6_within rfl ⟨Nat.le_of_ble_eq_true rfl, Nat.le_of_ble_eq_true rfl⟩ rfl (Nat.le_of_ble_eq_true rfl) ⟨Nat.zero_le _, Nat.zero_le _⟩ ?_
    refine V_if_eq (tgt := 31) eX6_fund_17 rfl (fun hb2 => ?_) (fun hb2 => ?_)
    · replace h := (if_pos hb2).symm.trans h
      refine V_bipush (v := (-2 : Int32)) eX6_fund_31 rfl ?_
      obtain rfl := Option.some.inj h
      exact V_ret eX6_fund_33 rfl ⟨rfl, rfl⟩
    · replace h := (if_neg hb2).symm.trans h
      refine V_iload_n eX6_fund_20 3 rfl ?_
      refine V_iconst (v := (-1 : Int32)) eX6_fund_21 rfl ?_
      refine V_iload_n eX6_fund_22 2 rfl ?_
      refine V_iconst (v := (1 : Int32)) eX6_fund_23 rfl ?_
      refine V_isub eX6_fund_24 ?_
      refine V_callSi (rest := []) eX6_fund_25 (ctX6_within l G _ p3 (-1 : Int32) (p2 - (1 : Int32)) rfl) tc_241 tw_239 tw_1 tw_240 hdX6_within rfl ⟨Nat.le_of_ble_eq_true rfl, Nat.le_of_ble_eq_true rfl⟩ rfl (Nat.le_of_ble_eq_true rfl) ⟨Nat.zero_le _, Nat.zero_le _⟩ ?_
      refine V_if_ne (tgt := 34) eX6_fund_28 rfl (fun hb3 => ?_) (fun hb3 => ?_)
      · replace h := (if_neg hb3).symm.trans h
        refine V_aload_n eX6_fund_34 0 rfl ?_
        refine V_get (v := .ref (A 11)) eX6_fund_35 inX6 0 rfl rfl 3 (Nat.le_of_ble_eq_true rfl) tw_210 rfl ?_
        refine V_aload_n eX6_fund_38 0 rfl ?_
        refine V_get (v := .ref (A 3)) eX6_fund_39 inX6 0 rfl rfl 1 (Nat.le_of_ble_eq_true rfl) tw_208 rfl ?_
        refine V_get (v := .int (c.1 2)) eX6_fund_42 inX5 3 rfl rfl 1 (Nat.le_of_ble_eq_true rfl) tw_47 rfl ?_
        obtain ⟨q4, hc4, h⟩ := Option.bind_eq_some_iff.mp h
        refine V_callVv (rest := []) eX6_fund_45 (ctX4_measure l G A c (c.1 2) hc4) tc_352 tw_349 tw_4 tw_350 tw_351 11 rfl rfl hdX4_measure rfl ⟨Nat.le_of_ble_eq_true rfl, Nat.le_of_ble_eq_true rfl⟩ rfl (Nat.le_of_ble_eq_true rfl) ⟨Nat.zero_le _, Nat.zero_le _⟩ ?_
        refine V_aload_n eX6_fund_48 0 rfl ?_
        refine V_get (v := .ref (A 18)) eX6_fund_49 inX6 0 rfl rfl 5 (Nat.le_of_ble_eq_true rfl) tw_212 rfl ?_
        refine V_iload_n eX6_fund_52 1 rfl ?_
        refine V_iload_n eX6_fund_53 2 rfl ?_
        obtain ⟨q5, hc5, h⟩ := Option.bind_eq_some_iff.mp h
        refine V_callVi (rest := []) eX6_fund_54 (ctX3_share l G A q4 p1 p2 hc5) tc_478 tw_475 tw_6 tw_476 tw_477 18 rfl rfl hdX3_share rfl ⟨Nat.le_of_ble_eq_true rfl, Nat.le_of_ble_eq_true rfl⟩ rfl (Nat.le_of_ble_eq_true rfl) ⟨Nat.zero_le _, Nat.zero_le _⟩ ?_
        refine V_istore (lv' := [(4, .int q5.1), (0, .ref (A 0)), (1, .int p1), (2, .int p2), (3, .int p3)]) eX6_fund_57 (Nat.le_of_ble_eq_true rfl) rfl ?_
        refine V_iload_n eX6_fund_59 4 rfl ?_
        refine V_iconst (v := (-1 : Int32)) eX6_fund_60 rfl ?_
        refine V_icmp_ne (tgt := 73) eX6_fund_61 rfl (fun hb6 => ?_) (fun hb6 => ?_)
        · replace h := (if_neg hb6).symm.trans h
          refine V_aload_n eX6_fund_73 1 rfl ?_
          refine V_get (v := .ref (A 18)) eX6_fund_74 inX6 0 rfl rfl 5 (Nat.le_of_ble_eq_true rfl) tw_212 rfl ?_
          refine V_iload_n eX6_fund_77 4 rfl ?_
          refine V_iload_n eX6_fund_78 2 rfl ?_
          obtain ⟨q7, hc7, h⟩ := Option.bind_eq_some_iff.mp h
          refine V_callVi (rest := []) eX6_fund_79 (ctX3_spentIn l G A q5.2 p3 p1 hc7) tc_502 tw_499 tw_6 tw_500 tw_501 18 rfl rfl hdX3_spentIn rfl ⟨Nat.le_of_ble_eq_true rfl, Nat.le_of_ble_eq_true rfl⟩ rfl (Nat.le_of_ble_eq_true rfl) ⟨Nat.zero_le _, Nat.zero_le _⟩ ?_
          obtain rfl := Option.some.inj h
          exact V_ret eX6_fund_82 rfl ⟨rfl, rfl⟩
        · replace h := (if_pos hb6).symm.trans h
          refine V_iload eX6_fund_64 0 rfl ?_
          refine V_sipush (v := (10000 : Int32)) eX6_fund_66 rfl ?_
          refine V_iadd eX6_fund_69 ?_
          refine V_goto (tgt := 82) eX6_fund_70 rfl ?_
          obtain rfl := Option.some.inj h
          exact V_ret eX6_fund_82 rfl ⟨rfl, rfl⟩
      · replace h := (if_pos hb3).symm.trans h
        refine V_bipush (v := (-2 : Int32)) eX6_fund_31 rfl ?_
        obtain rfl := Option.some.inj h
        exact V_ret eX6_fund_33 rfl ⟨rfl, rfl⟩
theorem hdX0_ways : yX0_ways.cls ≠ "java/lang/invoke/MethodHandle" ∧ yX0_ways.cls ≠ "java/lang/invoke/VarHandle" ∧ (parseMethodDescriptor yX0_ways.desc).map (fun d => d.parameters.length) = some 2 := by decide +kernel
theorem eX0_ways_0 : Dc cX0_ways 0 (.iload_n 0) 1 1 := ⟨by decide +kernel, rfl⟩
theorem eX0_ways_1 : Dc cX0_ways 1 (.iconst 0) 1 2 := ⟨by decide +kernel, rfl⟩
theorem eX0_ways_2 : Dc cX0_ways 2 (.bipush 11) 2 4 := ⟨by decide +kernel, rfl⟩
theorem eX0_ways_4 : Dc cX0_ways 4 (.invokestatic 60) 3 7 := ⟨by decide +kernel, rfl⟩
theorem eX0_ways_7 : Dc cX0_ways 7 (.ifCond .eq 17) 3 10 := ⟨by decide +kernel, rfl⟩
theorem eX0_ways_10 : Dc cX0_ways 10 (.iload_n 1) 1 11 := ⟨by decide +kernel, rfl⟩
theorem eX0_ways_11 : Dc cX0_ways 11 (.iconst 0) 1 12 := ⟨by decide +kernel, rfl⟩
theorem eX0_ways_12 : Dc cX0_ways 12 (.bipush 6) 2 14 := ⟨by decide +kernel, rfl⟩
theorem eX0_ways_14 : Dc cX0_ways 14 (.invokestatic 60) 3 17 := ⟨by decide +kernel, rfl⟩
theorem eX0_ways_17 : Dc cX0_ways 17 (.ifCond .eq 7) 3 20 := ⟨by decide +kernel, rfl⟩
theorem eX0_ways_20 : Dc cX0_ways 20 (.iconst 1) 1 21 := ⟨by decide +kernel, rfl⟩
theorem eX0_ways_21 : Dc cX0_ways 21 (.goto 4) 3 24 := ⟨by decide +kernel, rfl⟩
theorem eX0_ways_24 : Dc cX0_ways 24 (.iconst 0) 1 25 := ⟨by decide +kernel, rfl⟩
theorem eX0_ways_25 : Dc cX0_ways 25 (.istore_n 2) 1 26 := ⟨by decide +kernel, rfl⟩
theorem eX0_ways_26 : Dc cX0_ways 26 (.iload_n 2) 1 27 := ⟨by decide +kernel, rfl⟩
theorem eX0_ways_27 : Dc cX0_ways 27 (.ifCond .eq 16) 3 30 := ⟨by decide +kernel, rfl⟩
theorem eX0_ways_30 : Dc cX0_ways 30 (.getstatic 64) 3 33 := ⟨by decide +kernel, rfl⟩
theorem eX0_ways_33 : Dc cX0_ways 33 (.iload_n 0) 1 34 := ⟨by decide +kernel, rfl⟩
theorem eX0_ways_34 : Dc cX0_ways 34 (.bipush 7) 2 36 := ⟨by decide +kernel, rfl⟩
theorem eX0_ways_36 : Dc cX0_ways 36 (.imul) 1 37 := ⟨by decide +kernel, rfl⟩
theorem eX0_ways_37 : Dc cX0_ways 37 (.iload_n 1) 1 38 := ⟨by decide +kernel, rfl⟩
theorem eX0_ways_38 : Dc cX0_ways 38 (.iadd) 1 39 := ⟨by decide +kernel, rfl⟩
theorem eX0_ways_39 : Dc cX0_ways 39 (.iaload) 1 40 := ⟨by decide +kernel, rfl⟩
theorem eX0_ways_40 : Dc cX0_ways 40 (.goto 4) 3 43 := ⟨by decide +kernel, rfl⟩
theorem eX0_ways_43 : Dc cX0_ways 43 (.iconst 0) 1 44 := ⟨by decide +kernel, rfl⟩
theorem eX0_ways_44 : Dc cX0_ways 44 (.ireturn) 1 45 := ⟨by decide +kernel, rfl⟩
def fX0_ways (p0 : Int32) (p1 : Int32) : Option (Int32) := jn (fun (x1 : Int32) => if x1 = (0 : Int32) then some (0 : Int32) else ald 84 tg_chf ((p0 * (7 : Int32)) + p1) (fun v3 => some v3)) (fun j25 => jn (fun (_ : Unit) => j25 (0 : Int32)) (fun j24 => if (fX6_within p0 (0 : Int32) (11 : Int32)) = (0 : Int32) then j24 () else if (fX6_within p1 (0 : Int32) (6 : Int32)) = (0 : Int32) then j24 () else j25 (1 : Int32)))
set_option maxRecDepth 20000 in
theorem ctX0_ways (l : Launch) (G : tg_G) (w : va_W) (p0 : Int32) (p1 : Int32) {z : Int32} (h : fX0_ways p0 p1 = some z) : Mt l G yX0_ways cX0_ways 3 (some .int) (tg_R 1 22) [.int p0, .int p1] (w) (fun v w1 => v = some (.int z) ∧ w1 = w) := by
  refine Mt_of2 (own := "TramGod$Duel") (nm := "ways") rfl rfl rfl (Nat.le_of_ble_eq_true rfl) (lv := [(0, .int p0), (1, .int p1)]) rfl ?_
  unfold fX0_ways at h
  refine V_iload_n eX0_ways_0 0 rfl ?_
  refine V_iconst (v := (0 : Int32)) eX0_ways_1 rfl ?_
  refine V_bipush (v := (11 : Int32)) eX0_ways_2 rfl ?_
  refine V_callSNi (rest := []) eX0_ways_4 (ctX6_within l G _ p0 (0 : Int32) (11 : Int32) rfl) tc_241 (List.mem_of_getElem? (i := 4) rfl) tw_1 tw_240 hdX6_within rfl ⟨Nat.le_of_ble_eq_true rfl, Nat.le_of_ble_eq_true rfl⟩ rfl (Nat.le_of_ble_eq_true rfl) ⟨Nat.zero_le _, Nat.zero_le _⟩ ?_
  refine jn_elim h (fun j => ∀ (x1 : Int32), j x1 = some z → V l G (tg_Zm G (fun v w1 => v = some (.int z) ∧ w1 = w) 0 0) tg_E0 (tg_R 1 22) "TramGod$Duel" "ways" cX0_ways 3 (some .int) 25 [(0, .int p0), (1, .int p1)] [.int x1] (w) 0 0) ?_ (fun j25 hj25 h => ?_)
  · intro x1 h
    refine V_istore_n (lv' := [(2, .int x1), (0, .int p0), (1, .int p1)]) eX0_ways_25 (Nat.le_of_ble_eq_true rfl) rfl ?_
    refine V_iload_n eX0_ways_26 0 rfl ?_
    refine V_if_eq (tgt := 43) eX0_ways_27 rfl (fun hb2 => ?_) (fun hb2 => ?_)
    · replace h := (if_pos hb2).symm.trans h
      refine V_iconst (v := (0 : Int32)) eX0_ways_43 rfl ?_
      obtain rfl := Option.some.inj h
      exact V_ret eX0_ways_44 rfl ⟨rfl, rfl⟩
    · replace h := (if_neg hb2).symm.trans h
      refine V_gcho eX0_ways_30 (List.mem_of_getElem? (i := 5) rfl) ?_
      refine V_iload_n eX0_ways_33 1 rfl ?_
      refine V_bipush (v := (7 : Int32)) eX0_ways_34 rfl ?_
      refine V_imul eX0_ways_36 ?_
      refine V_iload_n eX0_ways_37 2 rfl ?_
      refine V_iadd eX0_ways_38 ?_
      obtain ⟨v3, hi3, ev3, h⟩ := ald_some h
      refine V_acho eX0_ways_39 hi3 ?_
      rw [ev3]
      refine V_goto (tgt := 44) eX0_ways_40 rfl ?_
      obtain rfl := Option.some.inj h
      exact V_ret eX0_ways_44 rfl ⟨rfl, rfl⟩
  refine jn_elim h (fun j => j () = some z → V l G (tg_Zm G (fun v w1 => v = some (.int z) ∧ w1 = w) 0 0) tg_E0 (tg_R 1 22) "TramGod$Duel" "ways" cX0_ways 3 (some .int) 24 [(0, .int p0), (1, .int p1)] [] (w) 0 0) ?_ (fun j24 hj24 h => ?_)
  · intro h
    refine V_iconst (v := (0 : Int32)) eX0_ways_24 rfl ?_
    exact hj25 (0 : Int32) h
  refine V_if_eq (tgt := 24) eX0_ways_7 rfl (fun hb4 => ?_) (fun hb4 => ?_)
  · replace h := (if_pos hb4).symm.trans h
    exact hj24 h
  · replace h := (if_neg hb4).symm.trans h
    refine V_iload_n eX0_ways_10 1 rfl ?_
    refine V_iconst (v := (0 : Int32)) eX0_ways_11 rfl ?_
    refine V_bipush (v := (6 : Int32)) eX0_ways_12 rfl ?_
    refine V_callSNi (rest := []) eX0_ways_14 (ctX6_within l G _ p1 (0 : Int32) (6 : Int32) rfl) tc_241 (List.mem_of_getElem? (i := 4) rfl) tw_1 tw_240 hdX6_within rfl ⟨Nat.le_of_ble_eq_true rfl, Nat.le_of_ble_eq_true rfl⟩ rfl (Nat.le_of_ble_eq_true rfl) ⟨Nat.zero_le _, Nat.zero_le _⟩ ?_
    refine V_if_eq (tgt := 24) eX0_ways_17 rfl (fun hb5 => ?_) (fun hb5 => ?_)
    · replace h := (if_pos hb5).symm.trans h
      exact hj24 h
    · replace h := (if_neg hb5).symm.trans h
      refine V_iconst (v := (1 : Int32)) eX0_ways_20 rfl ?_
      refine V_goto (tgt := 25) eX0_ways_21 rfl ?_
      exact hj25 (1 : Int32) h
theorem hdX0_findNext : yX0_findNext.cls ≠ "java/lang/invoke/MethodHandle" ∧ yX0_findNext.cls ≠ "java/lang/invoke/VarHandle" ∧ (parseMethodDescriptor yX0_findNext.desc).map (fun d => d.parameters.length) = some 1 := by decide +kernel
theorem eX0_findNext_0 : Dc cX0_findNext 0 (.aload_n 0) 1 1 := ⟨by decide +kernel, rfl⟩
theorem eX0_findNext_1 : Dc cX0_findNext 1 (.getfield 18) 3 4 := ⟨by decide +kernel, rfl⟩
theorem eX0_findNext_4 : Dc cX0_findNext 4 (.aload_n 0) 1 5 := ⟨by decide +kernel, rfl⟩
theorem eX0_findNext_5 : Dc cX0_findNext 5 (.getfield 24) 3 8 := ⟨by decide +kernel, rfl⟩
theorem eX0_findNext_8 : Dc cX0_findNext 8 (.getfield 32) 3 11 := ⟨by decide +kernel, rfl⟩
theorem eX0_findNext_11 : Dc cX0_findNext 11 (.iconst 1) 1 12 := ⟨by decide +kernel, rfl⟩
theorem eX0_findNext_12 : Dc cX0_findNext 12 (.isub) 1 13 := ⟨by decide +kernel, rfl⟩
theorem eX0_findNext_13 : Dc cX0_findNext 13 (.iaload) 1 14 := ⟨by decide +kernel, rfl⟩
theorem eX0_findNext_14 : Dc cX0_findNext 14 (.aload_n 0) 1 15 := ⟨by decide +kernel, rfl⟩
theorem eX0_findNext_15 : Dc cX0_findNext 15 (.getfield 24) 3 18 := ⟨by decide +kernel, rfl⟩
theorem eX0_findNext_18 : Dc cX0_findNext 18 (.getfield 38) 3 21 := ⟨by decide +kernel, rfl⟩
theorem eX0_findNext_21 : Dc cX0_findNext 21 (.if_icmp .lt 7) 3 24 := ⟨by decide +kernel, rfl⟩
theorem eX0_findNext_24 : Dc cX0_findNext 24 (.iconst 1) 1 25 := ⟨by decide +kernel, rfl⟩
theorem eX0_findNext_25 : Dc cX0_findNext 25 (.goto 4) 3 28 := ⟨by decide +kernel, rfl⟩
theorem eX0_findNext_28 : Dc cX0_findNext 28 (.iconst 0) 1 29 := ⟨by decide +kernel, rfl⟩
theorem eX0_findNext_29 : Dc cX0_findNext 29 (.istore_n 2) 1 30 := ⟨by decide +kernel, rfl⟩
theorem eX0_findNext_30 : Dc cX0_findNext 30 (.iload_n 1) 1 31 := ⟨by decide +kernel, rfl⟩
theorem eX0_findNext_31 : Dc cX0_findNext 31 (.istore_n 3) 1 32 := ⟨by decide +kernel, rfl⟩
theorem eX0_findNext_32 : Dc cX0_findNext 32 (.aload_n 0) 1 33 := ⟨by decide +kernel, rfl⟩
theorem eX0_findNext_33 : Dc cX0_findNext 33 (.getfield 24) 3 36 := ⟨by decide +kernel, rfl⟩
theorem eX0_findNext_36 : Dc cX0_findNext 36 (.getfield 32) 3 39 := ⟨by decide +kernel, rfl⟩
theorem eX0_findNext_39 : Dc cX0_findNext 39 (.iconst 1) 1 40 := ⟨by decide +kernel, rfl⟩
theorem eX0_findNext_40 : Dc cX0_findNext 40 (.isub) 1 41 := ⟨by decide +kernel, rfl⟩
theorem eX0_findNext_41 : Dc cX0_findNext 41 (.istore 4) 2 43 := ⟨by decide +kernel, rfl⟩
theorem eX0_findNext_43 : Dc cX0_findNext 43 (.iload 4) 2 45 := ⟨by decide +kernel, rfl⟩
theorem eX0_findNext_45 : Dc cX0_findNext 45 (.ifCond .lt 117) 3 48 := ⟨by decide +kernel, rfl⟩
theorem eX0_findNext_48 : Dc cX0_findNext 48 (.iload_n 3) 1 49 := ⟨by decide +kernel, rfl⟩
theorem eX0_findNext_49 : Dc cX0_findNext 49 (.aload_n 0) 1 50 := ⟨by decide +kernel, rfl⟩
theorem eX0_findNext_50 : Dc cX0_findNext 50 (.getfield 18) 3 53 := ⟨by decide +kernel, rfl⟩
theorem eX0_findNext_53 : Dc cX0_findNext 53 (.iload 4) 2 55 := ⟨by decide +kernel, rfl⟩
theorem eX0_findNext_55 : Dc cX0_findNext 55 (.iaload) 1 56 := ⟨by decide +kernel, rfl⟩
theorem eX0_findNext_56 : Dc cX0_findNext 56 (.iload 4) 2 58 := ⟨by decide +kernel, rfl⟩
theorem eX0_findNext_58 : Dc cX0_findNext 58 (.iadd) 1 59 := ⟨by decide +kernel, rfl⟩
theorem eX0_findNext_59 : Dc cX0_findNext 59 (.iload 4) 2 61 := ⟨by decide +kernel, rfl⟩
theorem eX0_findNext_61 : Dc cX0_findNext 61 (.invokestatic 41) 3 64 := ⟨by decide +kernel, rfl⟩
theorem eX0_findNext_64 : Dc cX0_findNext 64 (.iadd) 1 65 := ⟨by decide +kernel, rfl⟩
theorem eX0_findNext_65 : Dc cX0_findNext 65 (.istore_n 3) 1 66 := ⟨by decide +kernel, rfl⟩
theorem eX0_findNext_66 : Dc cX0_findNext 66 (.iload 4) 2 68 := ⟨by decide +kernel, rfl⟩
theorem eX0_findNext_68 : Dc cX0_findNext 68 (.ifCond .ne 12) 3 71 := ⟨by decide +kernel, rfl⟩
theorem eX0_findNext_71 : Dc cX0_findNext 71 (.aload_n 0) 1 72 := ⟨by decide +kernel, rfl⟩
theorem eX0_findNext_72 : Dc cX0_findNext 72 (.getfield 18) 3 75 := ⟨by decide +kernel, rfl⟩
theorem eX0_findNext_75 : Dc cX0_findNext 75 (.iconst 0) 1 76 := ⟨by decide +kernel, rfl⟩
theorem eX0_findNext_76 : Dc cX0_findNext 76 (.iaload) 1 77 := ⟨by decide +kernel, rfl⟩
theorem eX0_findNext_77 : Dc cX0_findNext 77 (.goto 20) 3 80 := ⟨by decide +kernel, rfl⟩
theorem eX0_findNext_80 : Dc cX0_findNext 80 (.aload_n 0) 1 81 := ⟨by decide +kernel, rfl⟩
theorem eX0_findNext_81 : Dc cX0_findNext 81 (.getfield 18) 3 84 := ⟨by decide +kernel, rfl⟩
theorem eX0_findNext_84 : Dc cX0_findNext 84 (.iload 4) 2 86 := ⟨by decide +kernel, rfl⟩
theorem eX0_findNext_86 : Dc cX0_findNext 86 (.iaload) 1 87 := ⟨by decide +kernel, rfl⟩
theorem eX0_findNext_87 : Dc cX0_findNext 87 (.aload_n 0) 1 88 := ⟨by decide +kernel, rfl⟩
theorem eX0_findNext_88 : Dc cX0_findNext 88 (.getfield 18) 3 91 := ⟨by decide +kernel, rfl⟩
theorem eX0_findNext_91 : Dc cX0_findNext 91 (.iload 4) 2 93 := ⟨by decide +kernel, rfl⟩
theorem eX0_findNext_93 : Dc cX0_findNext 93 (.iconst 1) 1 94 := ⟨by decide +kernel, rfl⟩
theorem eX0_findNext_94 : Dc cX0_findNext 94 (.isub) 1 95 := ⟨by decide +kernel, rfl⟩
theorem eX0_findNext_95 : Dc cX0_findNext 95 (.iaload) 1 96 := ⟨by decide +kernel, rfl⟩
theorem eX0_findNext_96 : Dc cX0_findNext 96 (.isub) 1 97 := ⟨by decide +kernel, rfl⟩
theorem eX0_findNext_97 : Dc cX0_findNext 97 (.istore 5) 2 99 := ⟨by decide +kernel, rfl⟩
theorem eX0_findNext_99 : Dc cX0_findNext 99 (.iload_n 2) 1 100 := ⟨by decide +kernel, rfl⟩
theorem eX0_findNext_100 : Dc cX0_findNext 100 (.ifCond .ne 28) 3 103 := ⟨by decide +kernel, rfl⟩
theorem eX0_findNext_103 : Dc cX0_findNext 103 (.iload 5) 2 105 := ⟨by decide +kernel, rfl⟩
theorem eX0_findNext_105 : Dc cX0_findNext 105 (.aload_n 0) 1 106 := ⟨by decide +kernel, rfl⟩
theorem eX0_findNext_106 : Dc cX0_findNext 106 (.getfield 24) 3 109 := ⟨by decide +kernel, rfl⟩
theorem eX0_findNext_109 : Dc cX0_findNext 109 (.iload 4) 2 111 := ⟨by decide +kernel, rfl⟩
theorem eX0_findNext_111 : Dc cX0_findNext 111 (.aload_n 0) 1 112 := ⟨by decide +kernel, rfl⟩
theorem eX0_findNext_112 : Dc cX0_findNext 112 (.getfield 24) 3 115 := ⟨by decide +kernel, rfl⟩
theorem eX0_findNext_115 : Dc cX0_findNext 115 (.getfield 38) 3 118 := ⟨by decide +kernel, rfl⟩
theorem eX0_findNext_118 : Dc cX0_findNext 118 (.invokevirtual 67) 3 121 := ⟨by decide +kernel, rfl⟩
theorem eX0_findNext_121 : Dc cX0_findNext 121 (.if_icmp .ge 7) 3 124 := ⟨by decide +kernel, rfl⟩
theorem eX0_findNext_124 : Dc cX0_findNext 124 (.iconst 1) 1 125 := ⟨by decide +kernel, rfl⟩
theorem eX0_findNext_125 : Dc cX0_findNext 125 (.goto 4) 3 128 := ⟨by decide +kernel, rfl⟩
theorem eX0_findNext_128 : Dc cX0_findNext 128 (.iconst 0) 1 129 := ⟨by decide +kernel, rfl⟩
theorem eX0_findNext_129 : Dc cX0_findNext 129 (.istore 6) 2 131 := ⟨by decide +kernel, rfl⟩
theorem eX0_findNext_131 : Dc cX0_findNext 131 (.aload_n 0) 1 132 := ⟨by decide +kernel, rfl⟩
theorem eX0_findNext_132 : Dc cX0_findNext 132 (.getfield 21) 3 135 := ⟨by decide +kernel, rfl⟩
theorem eX0_findNext_135 : Dc cX0_findNext 135 (.iload 4) 2 137 := ⟨by decide +kernel, rfl⟩
theorem eX0_findNext_137 : Dc cX0_findNext 137 (.iload 6) 2 139 := ⟨by decide +kernel, rfl⟩
theorem eX0_findNext_139 : Dc cX0_findNext 139 (.ifCond .eq 14) 3 142 := ⟨by decide +kernel, rfl⟩
theorem eX0_findNext_142 : Dc cX0_findNext 142 (.iload_n 3) 1 143 := ⟨by decide +kernel, rfl⟩
theorem eX0_findNext_143 : Dc cX0_findNext 143 (.sipush 462) 3 146 := ⟨by decide +kernel, rfl⟩
theorem eX0_findNext_146 : Dc cX0_findNext 146 (.if_icmp .ge 7) 3 149 := ⟨by decide +kernel, rfl⟩
theorem eX0_findNext_149 : Dc cX0_findNext 149 (.iload_n 3) 1 150 := ⟨by decide +kernel, rfl⟩
theorem eX0_findNext_150 : Dc cX0_findNext 150 (.goto 5) 3 153 := ⟨by decide +kernel, rfl⟩
theorem eX0_findNext_153 : Dc cX0_findNext 153 (.bipush (-6)) 2 155 := ⟨by decide +kernel, rfl⟩
theorem eX0_findNext_155 : Dc cX0_findNext 155 (.iastore) 1 156 := ⟨by decide +kernel, rfl⟩
theorem eX0_findNext_156 : Dc cX0_findNext 156 (.iinc 4 (-1)) 3 159 := ⟨by decide +kernel, rfl⟩
theorem eX0_findNext_159 : Dc cX0_findNext 159 (.goto (-116)) 3 162 := ⟨by decide +kernel, rfl⟩
theorem eX0_findNext_162 : Dc cX0_findNext 162 (.return_) 1 163 := ⟨by decide +kernel, rfl⟩
def fX0_findNext_L43  (a2 : Int32) : Nat → Int32 → Int32 → SS → Option (SS)
  | 0, _, _, _ => none
  | n + 1, a3, a4, c => if a4 < (0 : Int32) then some c else ald 6 (c.2 17) a4 (fun v4 => Option.bind (fX0_ways (v4 + a4) a4) (fun q5 => jn (fun (x6 : Int32) => jn (fun (x7 : Int32) => jn (fun (x8 : Int32) => ckb 6 a4 (fX0_findNext_L43 a2 n (a3 + q5) (a4 + (-1 : Int32)) (sA c 18 (a4).toNatClampNeg x8))) (fun j155 => jn (fun (_ : Unit) => j155 (-6 : Int32)) (fun j153 => if x7 = (0 : Int32) then j153 () else if (462 : Int32) ≤ (a3 + q5) then j153 () else j155 (a3 + q5)))) (fun j129 => jn (fun (_ : Unit) => j129 (0 : Int32)) (fun j128 => if a2 = (0 : Int32) then if (fX5_mayHold c a4 (c.1 3)) ≤ x6 then j128 () else j129 (1 : Int32) else j128 ()))) (fun j97 => if a4 = (0 : Int32) then ald 6 (c.2 17) (0 : Int32) (fun v17 => j97 v17) else ald 6 (c.2 17) a4 (fun v15 => ald 6 (c.2 17) (a4 - (1 : Int32)) (fun v16 => j97 (v15 - v16))))))
def fX0_findNext (c : SS) (p1 : Int32) : Option (SS) := ald 6 (c.2 17) ((c.1 1) - (1 : Int32)) (fun v1 => jn (fun (x2 : Int32) => fX0_findNext_L43 x2 fu p1 ((c.1 1) - (1 : Int32)) c) (fun j29 => if v1 < (c.1 3) then j29 (0 : Int32) else j29 (1 : Int32)))
set_option maxRecDepth 20000 in
theorem ctX0_findNext_L43 (l : Launch) (G : tg_G) (A : Nat → Nat)  (a2 : Int32) {z : SS}  : ∀ (n : Nat) (a3 : Int32) (a4 : Int32) (c : SS), fX0_findNext_L43 a2 n a3 a4 c = some z → V l G (tg_Zm G (fun v w1 => v = none ∧ w1 = wC G A z) 0 0) tg_E0 (tg_R 2 44) "TramGod$Duel" "findNext" cX0_findNext 7 none 43 [(0, .ref (A 21)), (2, .int a2), (3, .int a3), (4, .int a4)] [] (wC G A c) 0 0 := by
  intro n
  induction n with
  | zero => intro a3 a4 c h; exact absurd h (by simp [fX0_findNext_L43])
  | succ n ih =>
    intro a3 a4 c h
    unfold fX0_findNext_L43 at h
    refine V_iload eX0_findNext_43 3 rfl ?_
    refine V_if_lt (tgt := 162) eX0_findNext_45 rfl (fun hb3 => ?_) (fun hb3 => ?_)
    · replace h := (if_pos hb3).symm.trans h
      obtain rfl := Option.some.inj h
      exact V_vret eX0_findNext_162 rfl ⟨rfl, rfl⟩
    · replace h := (if_neg hb3).symm.trans h
      refine V_iload_n eX0_findNext_48 2 rfl ?_
      refine V_aload_n eX0_findNext_49 0 rfl ?_
      refine V_get (v := .ref (A 24)) eX0_findNext_50 inX0 21 rfl rfl 4 (Nat.le_of_ble_eq_true rfl) tw_182 rfl ?_
      refine V_iload eX0_findNext_53 3 rfl ?_
      obtain ⟨v4, hi4, ev4, h⟩ := ald_some h
      refine V_ialdv eX0_findNext_55 24 rfl hi4 ev4 ?_
      refine V_iload eX0_findNext_56 3 rfl ?_
      refine V_iadd eX0_findNext_58 ?_
      refine V_iload eX0_findNext_59 3 rfl ?_
      obtain ⟨q5, hc5, h⟩ := Option.bind_eq_some_iff.mp h
      refine V_callSi (rest := [.int a3]) eX0_findNext_61 (ctX0_ways l G _ (v4 + a4) a4 hc5) tc_513 tw_511 tw_7 tw_512 hdX0_ways rfl ⟨Nat.le_of_ble_eq_true rfl, Nat.le_of_ble_eq_true rfl⟩ rfl (Nat.le_of_ble_eq_true rfl) ⟨Nat.zero_le _, Nat.zero_le _⟩ ?_
      refine V_iadd eX0_findNext_64 ?_
      refine V_istore_n (lv' := [(3, .int (a3 + q5)), (0, .ref (A 21)), (2, .int a2), (4, .int a4)]) eX0_findNext_65 (Nat.le_of_ble_eq_true rfl) rfl ?_
      refine V_iload eX0_findNext_66 3 rfl ?_
      refine jn_elim h (fun j => ∀ (x6 : Int32), j x6 = some z → V l G (tg_Zm G (fun v w1 => v = none ∧ w1 = wC G A z) 0 0) tg_E0 (tg_R 2 44) "TramGod$Duel" "findNext" cX0_findNext 7 none 97 [(0, .ref (A 21)), (2, .int a2), (3, .int (a3 + q5)), (4, .int a4)] [.int x6] (wC G A c) 0 0) ?_ (fun j97 hj97 h => ?_)
      · intro x6 h
        refine V_istore (lv' := [(5, .int x6), (0, .ref (A 21)), (2, .int a2), (3, .int (a3 + q5)), (4, .int a4)]) eX0_findNext_97 (Nat.le_of_ble_eq_true rfl) rfl ?_
        refine V_iload_n eX0_findNext_99 2 rfl ?_
        refine jn_elim h (fun j => ∀ (x7 : Int32), j x7 = some z → V l G (tg_Zm G (fun v w1 => v = none ∧ w1 = wC G A z) 0 0) tg_E0 (tg_R 2 44) "TramGod$Duel" "findNext" cX0_findNext 7 none 129 [(0, .ref (A 21)), (2, .int a2), (3, .int (a3 + q5)), (4, .int a4)] [.int x7] (wC G A c) 0 0) ?_ (fun j129 hj129 h => ?_)
        · intro x7 h
          refine V_istore (lv' := [(6, .int x7), (0, .ref (A 21)), (2, .int a2), (3, .int (a3 + q5)), (4, .int a4)]) eX0_findNext_129 (Nat.le_of_ble_eq_true rfl) rfl ?_
          refine V_aload_n eX0_findNext_131 1 rfl ?_
          refine V_get (v := .ref (A 25)) eX0_findNext_132 inX0 21 rfl rfl 5 (Nat.le_of_ble_eq_true rfl) tw_183 rfl ?_
          refine V_iload eX0_findNext_135 4 rfl ?_
          refine V_iload eX0_findNext_137 0 rfl ?_
          refine jn_elim h (fun j => ∀ (x8 : Int32), j x8 = some z → V l G (tg_Zm G (fun v w1 => v = none ∧ w1 = wC G A z) 0 0) tg_E0 (tg_R 2 44) "TramGod$Duel" "findNext" cX0_findNext 7 none 155 [(0, .ref (A 21)), (2, .int a2), (3, .int (a3 + q5)), (4, .int a4)] [.int x8, .int a4, .ref (A 25)] (wC G A c) 0 0) ?_ (fun j155 hj155 h => ?_)
          · intro x8 h
            obtain ⟨hi9, h⟩ := ckb_some h
            refine V_iast (w' := wC G A (sA c 18 (a4).toNatClampNeg x8)) eX0_findNext_155 25 rfl hi9 rfl ?_
            refine V_iinc (v := (a4 + (-1 : Int32))) (lv' := [(4, .int (a4 + (-1 : Int32))), (0, .ref (A 21)), (2, .int a2), (3, .int (a3 + q5))]) eX0_findNext_156 3 rfl rfl (Nat.le_of_ble_eq_true rfl) rfl ?_
            refine V_goto (tgt := 43) eX0_findNext_159 rfl ?_
            refine V_lv (lv' := [(0, .ref (A 21)), (2, .int a2), (3, .int (a3 + q5)), (4, .int (a4 + (-1 : Int32)))]) [1, 2, 3, 0] rfl ?_
            exact ih (a3 + q5) (a4 + (-1 : Int32)) (sA c 18 (a4).toNatClampNeg x8) h
          refine jn_elim h (fun j => j () = some z → V l G (tg_Zm G (fun v w1 => v = none ∧ w1 = wC G A z) 0 0) tg_E0 (tg_R 2 44) "TramGod$Duel" "findNext" cX0_findNext 7 none 153 [(0, .ref (A 21)), (2, .int a2), (3, .int (a3 + q5)), (4, .int a4)] [.int a4, .ref (A 25)] (wC G A c) 0 0) ?_ (fun j153 hj153 h => ?_)
          · intro h
            refine V_bipush (v := (-6 : Int32)) eX0_findNext_153 rfl ?_
            exact hj155 (-6 : Int32) h
          refine V_if_eq (tgt := 153) eX0_findNext_139 rfl (fun hb10 => ?_) (fun hb10 => ?_)
          · replace h := (if_pos hb10).symm.trans h
            refine V_lv (lv' := [(0, .ref (A 21)), (2, .int a2), (3, .int (a3 + q5)), (4, .int a4)]) [1, 2, 3, 4] rfl ?_
            exact hj153 h
          · replace h := (if_neg hb10).symm.trans h
            refine V_iload_n eX0_findNext_142 3 rfl ?_
            refine V_sipush (v := (462 : Int32)) eX0_findNext_143 rfl ?_
            refine V_icmp_ge (tgt := 153) eX0_findNext_146 rfl (fun hb11 => ?_) (fun hb11 => ?_)
            · replace h := (if_pos hb11).symm.trans h
              refine V_lv (lv' := [(0, .ref (A 21)), (2, .int a2), (3, .int (a3 + q5)), (4, .int a4)]) [1, 2, 3, 4] rfl ?_
              exact hj153 h
            · replace h := (if_neg hb11).symm.trans h
              refine V_iload_n eX0_findNext_149 3 rfl ?_
              refine V_goto (tgt := 155) eX0_findNext_150 rfl ?_
              refine V_lv (lv' := [(0, .ref (A 21)), (2, .int a2), (3, .int (a3 + q5)), (4, .int a4)]) [1, 2, 3, 4] rfl ?_
              exact hj155 (a3 + q5) h
        refine jn_elim h (fun j => j () = some z → V l G (tg_Zm G (fun v w1 => v = none ∧ w1 = wC G A z) 0 0) tg_E0 (tg_R 2 44) "TramGod$Duel" "findNext" cX0_findNext 7 none 128 [(0, .ref (A 21)), (2, .int a2), (3, .int (a3 + q5)), (4, .int a4)] [] (wC G A c) 0 0) ?_ (fun j128 hj128 h => ?_)
        · intro h
          refine V_iconst (v := (0 : Int32)) eX0_findNext_128 rfl ?_
          exact hj129 (0 : Int32) h
        refine V_if_ne (tgt := 128) eX0_findNext_100 rfl (fun hb12 => ?_) (fun hb12 => ?_)
        · replace h := (if_neg hb12).symm.trans h
          refine V_lv (lv' := [(0, .ref (A 21)), (2, .int a2), (3, .int (a3 + q5)), (4, .int a4)]) [1, 2, 3, 4] rfl ?_
          exact hj128 h
        · replace h := (if_pos hb12).symm.trans h
          refine V_iload eX0_findNext_103 0 rfl ?_
          refine V_aload_n eX0_findNext_105 1 rfl ?_
          refine V_get (v := .ref (A 3)) eX0_findNext_106 inX0 21 rfl rfl 0 (Nat.le_of_ble_eq_true rfl) tw_178 rfl ?_
          refine V_iload eX0_findNext_109 4 rfl ?_
          refine V_aload_n eX0_findNext_111 1 rfl ?_
          refine V_get (v := .ref (A 3)) eX0_findNext_112 inX0 21 rfl rfl 0 (Nat.le_of_ble_eq_true rfl) tw_178 rfl ?_
          refine V_get (v := .int (c.1 3)) eX0_findNext_115 inX5 3 rfl rfl 2 (Nat.le_of_ble_eq_true rfl) tw_50 rfl ?_
          refine V_callVi (rest := [.int x6]) eX0_findNext_118 (ctX5_mayHold l G A c a4 (c.1 3) rfl) tc_438 tw_522 tw_3 tw_436 tw_437 3 rfl rfl hdX5_mayHold rfl ⟨Nat.le_of_ble_eq_true rfl, Nat.le_of_ble_eq_true rfl⟩ rfl (Nat.le_of_ble_eq_true rfl) ⟨Nat.zero_le _, Nat.zero_le _⟩ ?_
          refine V_icmp_ge (tgt := 128) eX0_findNext_121 rfl (fun hb13 => ?_) (fun hb13 => ?_)
          · replace h := (if_pos hb13).symm.trans h
            refine V_lv (lv' := [(0, .ref (A 21)), (2, .int a2), (3, .int (a3 + q5)), (4, .int a4)]) [1, 2, 3, 4] rfl ?_
            exact hj128 h
          · replace h := (if_neg hb13).symm.trans h
            refine V_iconst (v := (1 : Int32)) eX0_findNext_124 rfl ?_
            refine V_goto (tgt := 129) eX0_findNext_125 rfl ?_
            refine V_lv (lv' := [(0, .ref (A 21)), (2, .int a2), (3, .int (a3 + q5)), (4, .int a4)]) [1, 2, 3, 4] rfl ?_
            exact hj129 (1 : Int32) h
      refine V_if_ne (tgt := 80) eX0_findNext_68 rfl (fun hb14 => ?_) (fun hb14 => ?_)
      · replace h := (if_neg hb14).symm.trans h
        refine V_aload_n eX0_findNext_80 1 rfl ?_
        refine V_get (v := .ref (A 24)) eX0_findNext_81 inX0 21 rfl rfl 4 (Nat.le_of_ble_eq_true rfl) tw_182 rfl ?_
        refine V_iload eX0_findNext_84 3 rfl ?_
        obtain ⟨v15, hi15, ev15, h⟩ := ald_some h
        refine V_ialdv eX0_findNext_86 24 rfl hi15 ev15 ?_
        refine V_aload_n eX0_findNext_87 1 rfl ?_
        refine V_get (v := .ref (A 24)) eX0_findNext_88 inX0 21 rfl rfl 4 (Nat.le_of_ble_eq_true rfl) tw_182 rfl ?_
        refine V_iload eX0_findNext_91 3 rfl ?_
        refine V_iconst (v := (1 : Int32)) eX0_findNext_93 rfl ?_
        refine V_isub eX0_findNext_94 ?_
        obtain ⟨v16, hi16, ev16, h⟩ := ald_some h
        refine V_ialdv eX0_findNext_95 24 rfl hi16 ev16 ?_
        refine V_isub eX0_findNext_96 ?_
        refine V_lv (lv' := [(0, .ref (A 21)), (2, .int a2), (3, .int (a3 + q5)), (4, .int a4)]) [1, 2, 0, 3] rfl ?_
        exact hj97 (v15 - v16) h
      · replace h := (if_pos hb14).symm.trans h
        refine V_aload_n eX0_findNext_71 1 rfl ?_
        refine V_get (v := .ref (A 24)) eX0_findNext_72 inX0 21 rfl rfl 4 (Nat.le_of_ble_eq_true rfl) tw_182 rfl ?_
        refine V_iconst (v := (0 : Int32)) eX0_findNext_75 rfl ?_
        obtain ⟨v17, hi17, ev17, h⟩ := ald_some h
        refine V_ialdv eX0_findNext_76 24 rfl hi17 ev17 ?_
        refine V_goto (tgt := 97) eX0_findNext_77 rfl ?_
        refine V_lv (lv' := [(0, .ref (A 21)), (2, .int a2), (3, .int (a3 + q5)), (4, .int a4)]) [1, 2, 0, 3] rfl ?_
        exact hj97 v17 h
set_option maxRecDepth 20000 in
theorem ctX0_findNext (l : Launch) (G : tg_G) (A : Nat → Nat) (c : SS) (p1 : Int32) {z : SS} (h : fX0_findNext c p1 = some z) : Mt l G yX0_findNext cX0_findNext 7 none (tg_R 2 44) [.ref (A 21), .int p1] (wC G A c) (fun v w1 => v = none ∧ w1 = wC G A z) := by
  refine Mt_of2 (own := "TramGod$Duel") (nm := "findNext") rfl rfl rfl (Nat.le_of_ble_eq_true rfl) (lv := [(0, .ref (A 21)), (1, .int p1)]) rfl ?_
  unfold fX0_findNext at h
  refine V_aload_n eX0_findNext_0 0 rfl ?_
  refine V_get (v := .ref (A 24)) eX0_findNext_1 inX0 21 rfl rfl 4 (Nat.le_of_ble_eq_true rfl) tw_182 rfl ?_
  refine V_aload_n eX0_findNext_4 0 rfl ?_
  refine V_get (v := .ref (A 3)) eX0_findNext_5 inX0 21 rfl rfl 0 (Nat.le_of_ble_eq_true rfl) tw_178 rfl ?_
  refine V_get (v := .int (c.1 1)) eX0_findNext_8 inX5 3 rfl rfl 0 (Nat.le_of_ble_eq_true rfl) tw_43 rfl ?_
  refine V_iconst (v := (1 : Int32)) eX0_findNext_11 rfl ?_
  refine V_isub eX0_findNext_12 ?_
  obtain ⟨v1, hi1, ev1, h⟩ := ald_some h
  refine V_ialdv eX0_findNext_13 24 rfl hi1 ev1 ?_
  refine V_aload_n eX0_findNext_14 0 rfl ?_
  refine V_get (v := .ref (A 3)) eX0_findNext_15 inX0 21 rfl rfl 0 (Nat.le_of_ble_eq_true rfl) tw_178 rfl ?_
  refine V_get (v := .int (c.1 3)) eX0_findNext_18 inX5 3 rfl rfl 2 (Nat.le_of_ble_eq_true rfl) tw_50 rfl ?_
  refine jn_elim h (fun j => ∀ (x2 : Int32), j x2 = some z → V l G (tg_Zm G (fun v w1 => v = none ∧ w1 = wC G A z) 0 0) tg_E0 (tg_R 2 44) "TramGod$Duel" "findNext" cX0_findNext 7 none 29 [(0, .ref (A 21)), (1, .int p1)] [.int x2] (wC G A c) 0 0) ?_ (fun j29 hj29 h => ?_)
  · intro x2 h
    refine V_istore_n (lv' := [(2, .int x2), (0, .ref (A 21)), (1, .int p1)]) eX0_findNext_29 (Nat.le_of_ble_eq_true rfl) rfl ?_
    refine V_iload_n eX0_findNext_30 2 rfl ?_
    refine V_istore_n (lv' := [(3, .int p1), (2, .int x2), (0, .ref (A 21)), (1, .int p1)]) eX0_findNext_31 (Nat.le_of_ble_eq_true rfl) rfl ?_
    refine V_aload_n eX0_findNext_32 2 rfl ?_
    refine V_get (v := .ref (A 3)) eX0_findNext_33 inX0 21 rfl rfl 0 (Nat.le_of_ble_eq_true rfl) tw_178 rfl ?_
    refine V_get (v := .int (c.1 1)) eX0_findNext_36 inX5 3 rfl rfl 0 (Nat.le_of_ble_eq_true rfl) tw_43 rfl ?_
    refine V_iconst (v := (1 : Int32)) eX0_findNext_39 rfl ?_
    refine V_isub eX0_findNext_40 ?_
    refine V_istore (lv' := [(4, .int ((c.1 1) - (1 : Int32))), (3, .int p1), (2, .int x2), (0, .ref (A 21)), (1, .int p1)]) eX0_findNext_41 (Nat.le_of_ble_eq_true rfl) rfl ?_
    refine V_lv (lv' := [(0, .ref (A 21)), (2, .int x2), (3, .int p1), (4, .int ((c.1 1) - (1 : Int32)))]) [3, 2, 1, 0] rfl ?_
    refine ctX0_findNext_L43 l G A x2 fu p1 ((c.1 1) - (1 : Int32)) c h
  refine V_icmp_lt (tgt := 28) eX0_findNext_21 rfl (fun hb18 => ?_) (fun hb18 => ?_)
  · replace h := (if_pos hb18).symm.trans h
    refine V_iconst (v := (0 : Int32)) eX0_findNext_28 rfl ?_
    exact hj29 (0 : Int32) h
  · replace h := (if_neg hb18).symm.trans h
    refine V_iconst (v := (1 : Int32)) eX0_findNext_24 rfl ?_
    refine V_goto (tgt := 29) eX0_findNext_25 rfl ?_
    exact hj29 (1 : Int32) h
def fX4_ridersLate_24_L5  (c : SS) (a2 : Int32) : Nat → Int32 → Int32 → Option (Int32)
  | 0, _, _ => none
  | n + 1, a3, a4 => if (8 : Int32) ≤ a4 then some a3 else ald 8 (c.2 8) a4 (fun v2 => ald 8 (c.2 2) a4 (fun v3 => ald 6 (c.2 17) v3 (fun v4 => jn (fun (x5 : Int32) => fX4_ridersLate_24_L5 c a2 n x5 (a4 + (1 : Int32))) (fun j43 => if v4 < (v2 + a2) then j43 a3 else j43 (a3 ||| ((1 : Int32) <<< (a4 &&& 31)))))))
def fX4_ridersLate_24 (c : SS) (p2 : Int32) : Option (Int32) := fX4_ridersLate_24_L5 c p2 fu (0 : Int32) (0 : Int32)
set_option maxRecDepth 20000 in
theorem ctX4_ridersLate_24_L5 (l : Launch) (G : tg_G) (A : Nat → Nat)  (c : SS) (a2 : Int32) {z : Int32}  : ∀ (n : Nat) (a3 : Int32) (a4 : Int32), fX4_ridersLate_24_L5 c a2 n a3 a4 = some z → V l G (tg_Zm G (fun v w1 => v = some (.int z) ∧ w1 = wC G A c) 0 0) tg_E0 (tg_R 0 0) "TramGod$Slack" "ridersLate" cX4_ridersLate 5 (some .int) 5 [(0, .ref (A 11)), (1, .ref (A 24)), (2, .int a2), (3, .int a3), (4, .int a4)] [] (wC G A c) 0 0 := by
  intro n
  induction n with
  | zero => intro a3 a4 h; exact absurd h (by simp [fX4_ridersLate_24_L5])
  | succ n ih =>
    intro a3 a4 h
    unfold fX4_ridersLate_24_L5 at h
    refine V_iload eX4_ridersLate_5 4 rfl ?_
    refine V_bipush (v := (8 : Int32)) eX4_ridersLate_7 rfl ?_
    refine V_icmp_ge (tgt := 49) eX4_ridersLate_9 rfl (fun hb1 => ?_) (fun hb1 => ?_)
    · replace h := (if_pos hb1).symm.trans h
      refine V_iload_n eX4_ridersLate_49 3 rfl ?_
      obtain rfl := Option.some.inj h
      exact V_ret eX4_ridersLate_50 rfl ⟨rfl, rfl⟩
    · replace h := (if_neg hb1).symm.trans h
      refine V_aload_n eX4_ridersLate_12 0 rfl ?_
      refine V_get (v := .ref (A 12)) eX4_ridersLate_13 inX4 11 rfl rfl 1 (Nat.le_of_ble_eq_true rfl) tw_120 rfl ?_
      refine V_iload eX4_ridersLate_16 4 rfl ?_
      obtain ⟨v2, hi2, ev2, h⟩ := ald_some h
      refine V_ialdv eX4_ridersLate_18 12 rfl hi2 ev2 ?_
      refine V_iload_n eX4_ridersLate_19 2 rfl ?_
      refine V_iadd eX4_ridersLate_20 ?_
      refine V_aload_n eX4_ridersLate_21 1 rfl ?_
      refine V_aload_n eX4_ridersLate_22 0 rfl ?_
      refine V_get (v := .ref (A 3)) eX4_ridersLate_23 inX4 11 rfl rfl 0 (Nat.le_of_ble_eq_true rfl) tw_119 rfl ?_
      refine V_get (v := .ref (A 5)) eX4_ridersLate_26 inX5 3 rfl rfl 9 (Nat.le_of_ble_eq_true rfl) tw_65 rfl ?_
      refine V_iload eX4_ridersLate_29 4 rfl ?_
      obtain ⟨v3, hi3, ev3, h⟩ := ald_some h
      refine V_ialdv eX4_ridersLate_31 5 rfl hi3 ev3 ?_
      obtain ⟨v4, hi4, ev4, h⟩ := ald_some h
      refine V_ialdv eX4_ridersLate_32 24 rfl hi4 ev4 ?_
      refine jn_elim h (fun j => ∀ (x5 : Int32), j x5 = some z → V l G (tg_Zm G (fun v w1 => v = some (.int z) ∧ w1 = wC G A c) 0 0) tg_E0 (tg_R 0 0) "TramGod$Slack" "ridersLate" cX4_ridersLate 5 (some .int) 43 [(0, .ref (A 11)), (1, .ref (A 24)), (2, .int a2), (3, .int x5), (4, .int a4)] [] (wC G A c) 0 0) ?_ (fun j43 hj43 h => ?_)
      · intro x5 h
        refine V_iinc (v := (a4 + (1 : Int32))) (lv' := [(4, .int (a4 + (1 : Int32))), (0, .ref (A 11)), (1, .ref (A 24)), (2, .int a2), (3, .int x5)]) eX4_ridersLate_43 4 rfl rfl (Nat.le_of_ble_eq_true rfl) rfl ?_
        refine V_goto (tgt := 5) eX4_ridersLate_46 rfl ?_
        refine V_lv (lv' := [(0, .ref (A 11)), (1, .ref (A 24)), (2, .int a2), (3, .int x5), (4, .int (a4 + (1 : Int32)))]) [1, 2, 3, 4, 0] rfl ?_
        exact ih x5 (a4 + (1 : Int32)) h
      refine V_icmp_gt (tgt := 43) eX4_ridersLate_33 rfl (fun hb6 => ?_) (fun hb6 => ?_)
      · replace h := (if_pos hb6).symm.trans h
        exact hj43 a3 h
      · replace h := (if_neg hb6).symm.trans h
        refine V_iload_n eX4_ridersLate_36 3 rfl ?_
        refine V_iconst (v := (1 : Int32)) eX4_ridersLate_37 rfl ?_
        refine V_iload eX4_ridersLate_38 4 rfl ?_
        refine V_ishl eX4_ridersLate_40 ?_
        refine V_ior eX4_ridersLate_41 ?_
        refine V_istore_n (lv' := [(3, .int (a3 ||| ((1 : Int32) <<< (a4 &&& 31)))), (0, .ref (A 11)), (1, .ref (A 24)), (2, .int a2), (4, .int a4)]) eX4_ridersLate_42 (Nat.le_of_ble_eq_true rfl) rfl ?_
        refine V_lv (lv' := [(0, .ref (A 11)), (1, .ref (A 24)), (2, .int a2), (3, .int (a3 ||| ((1 : Int32) <<< (a4 &&& 31)))), (4, .int a4)]) [1, 2, 3, 0, 4] rfl ?_
        exact hj43 (a3 ||| ((1 : Int32) <<< (a4 &&& 31))) h
set_option maxRecDepth 20000 in
theorem ctX4_ridersLate_24 (l : Launch) (G : tg_G) (A : Nat → Nat) (c : SS) (p2 : Int32) {z : Int32} (h : fX4_ridersLate_24 c p2 = some z) : Mt l G yX4_ridersLate cX4_ridersLate 5 (some .int) (tg_R 0 0) [.ref (A 11), .ref (A 24), .int p2] (wC G A c) (fun v w1 => v = some (.int z) ∧ w1 = wC G A c) := by
  refine Mt_of2 (own := "TramGod$Slack") (nm := "ridersLate") rfl rfl rfl (Nat.le_of_ble_eq_true rfl) (lv := [(0, .ref (A 11)), (1, .ref (A 24)), (2, .int p2)]) rfl ?_
  unfold fX4_ridersLate_24 at h
  refine V_iconst (v := (0 : Int32)) eX4_ridersLate_0 rfl ?_
  refine V_istore_n (lv' := [(3, .int (0 : Int32)), (0, .ref (A 11)), (1, .ref (A 24)), (2, .int p2)]) eX4_ridersLate_1 (Nat.le_of_ble_eq_true rfl) rfl ?_
  refine V_iconst (v := (0 : Int32)) eX4_ridersLate_2 rfl ?_
  refine V_istore (lv' := [(4, .int (0 : Int32)), (3, .int (0 : Int32)), (0, .ref (A 11)), (1, .ref (A 24)), (2, .int p2)]) eX4_ridersLate_3 (Nat.le_of_ble_eq_true rfl) rfl ?_
  refine V_lv (lv' := [(0, .ref (A 11)), (1, .ref (A 24)), (2, .int p2), (3, .int (0 : Int32)), (4, .int (0 : Int32))]) [2, 3, 4, 1, 0] rfl ?_
  refine ctX4_ridersLate_24_L5 l G A c p2 fu (0 : Int32) (0 : Int32) h
def fX4_ridersBy_24 (c : SS)  : Option (Int32) := Option.bind (fX4_ridersLate_24 c (0 : Int32)) (fun q1 => some q1)
set_option maxRecDepth 20000 in
theorem ctX4_ridersBy_24 (l : Launch) (G : tg_G) (A : Nat → Nat) (c : SS)  {z : Int32} (h : fX4_ridersBy_24 c  = some z) : Mt l G yX4_ridersBy cX4_ridersBy 2 (some .int) (tg_R 1 24) [.ref (A 11), .ref (A 24)] (wC G A c) (fun v w1 => v = some (.int z) ∧ w1 = wC G A c) := by
  refine Mt_of2 (own := "TramGod$Slack") (nm := "ridersBy") rfl rfl rfl (Nat.le_of_ble_eq_true rfl) (lv := [(0, .ref (A 11)), (1, .ref (A 24))]) rfl ?_
  unfold fX4_ridersBy_24 at h
  refine V_aload_n eX4_ridersBy_0 0 rfl ?_
  refine V_aload_n eX4_ridersBy_1 1 rfl ?_
  refine V_iconst (v := (0 : Int32)) eX4_ridersBy_2 rfl ?_
  obtain ⟨q1, hc1, h⟩ := Option.bind_eq_some_iff.mp h
  refine V_callVi (rest := []) eX4_ridersBy_3 (ctX4_ridersLate_24 l G A c (0 : Int32) hc1) tc_369 tw_366 tw_4 tw_367 tw_368 11 rfl rfl hdX4_ridersLate rfl ⟨Nat.le_of_ble_eq_true rfl, Nat.le_of_ble_eq_true rfl⟩ rfl (Nat.le_of_ble_eq_true rfl) ⟨Nat.zero_le _, Nat.zero_le _⟩ ?_
  obtain rfl := Option.some.inj h
  exact V_ret eX4_ridersBy_6 rfl ⟨rfl, rfl⟩
theorem hdX0_better : yX0_better.cls ≠ "java/lang/invoke/MethodHandle" ∧ yX0_better.cls ≠ "java/lang/invoke/VarHandle" ∧ (parseMethodDescriptor yX0_better.desc).map (fun d => d.parameters.length) = some 3 := by decide +kernel
theorem eX0_better_0 : Dc cX0_better 0 (.iload_n 0) 1 1 := ⟨by decide +kernel, rfl⟩
theorem eX0_better_1 : Dc cX0_better 1 (.ifCond .eq 24) 3 4 := ⟨by decide +kernel, rfl⟩
theorem eX0_better_4 : Dc cX0_better 4 (.iload_n 1) 1 5 := ⟨by decide +kernel, rfl⟩
theorem eX0_better_5 : Dc cX0_better 5 (.sipush 1000) 3 8 := ⟨by decide +kernel, rfl⟩
theorem eX0_better_8 : Dc cX0_better 8 (.idiv) 1 9 := ⟨by decide +kernel, rfl⟩
theorem eX0_better_9 : Dc cX0_better 9 (.iload_n 2) 1 10 := ⟨by decide +kernel, rfl⟩
theorem eX0_better_10 : Dc cX0_better 10 (.sipush 1000) 3 13 := ⟨by decide +kernel, rfl⟩
theorem eX0_better_13 : Dc cX0_better 13 (.idiv) 1 14 := ⟨by decide +kernel, rfl⟩
theorem eX0_better_14 : Dc cX0_better 14 (.if_icmp .le 7) 3 17 := ⟨by decide +kernel, rfl⟩
theorem eX0_better_17 : Dc cX0_better 17 (.iconst 1) 1 18 := ⟨by decide +kernel, rfl⟩
theorem eX0_better_18 : Dc cX0_better 18 (.goto 25) 3 21 := ⟨by decide +kernel, rfl⟩
theorem eX0_better_21 : Dc cX0_better 21 (.iconst 0) 1 22 := ⟨by decide +kernel, rfl⟩
theorem eX0_better_22 : Dc cX0_better 22 (.goto 21) 3 25 := ⟨by decide +kernel, rfl⟩
theorem eX0_better_25 : Dc cX0_better 25 (.iload_n 1) 1 26 := ⟨by decide +kernel, rfl⟩
theorem eX0_better_26 : Dc cX0_better 26 (.sipush 1000) 3 29 := ⟨by decide +kernel, rfl⟩
theorem eX0_better_29 : Dc cX0_better 29 (.irem) 1 30 := ⟨by decide +kernel, rfl⟩
theorem eX0_better_30 : Dc cX0_better 30 (.iload_n 2) 1 31 := ⟨by decide +kernel, rfl⟩
theorem eX0_better_31 : Dc cX0_better 31 (.sipush 1000) 3 34 := ⟨by decide +kernel, rfl⟩
theorem eX0_better_34 : Dc cX0_better 34 (.irem) 1 35 := ⟨by decide +kernel, rfl⟩
theorem eX0_better_35 : Dc cX0_better 35 (.if_icmp .le 7) 3 38 := ⟨by decide +kernel, rfl⟩
theorem eX0_better_38 : Dc cX0_better 38 (.iconst 1) 1 39 := ⟨by decide +kernel, rfl⟩
theorem eX0_better_39 : Dc cX0_better 39 (.goto 4) 3 42 := ⟨by decide +kernel, rfl⟩
theorem eX0_better_42 : Dc cX0_better 42 (.iconst 0) 1 43 := ⟨by decide +kernel, rfl⟩
theorem eX0_better_43 : Dc cX0_better 43 (.ireturn) 1 44 := ⟨by decide +kernel, rfl⟩
def fX0_better (p0 : Int32) (p1 : Int32) (p2 : Int32) : Int32 := if p0 = (0 : Int32) then if (irm p1 (1000 : Int32)) ≤ (irm p2 (1000 : Int32)) then (0 : Int32) else (1 : Int32) else if (p1 / (1000 : Int32)) ≤ (p2 / (1000 : Int32)) then (0 : Int32) else (1 : Int32)
set_option maxRecDepth 20000 in
theorem ctX0_better (l : Launch) (G : tg_G) (w : va_W) (p0 : Int32) (p1 : Int32) (p2 : Int32) {z : Int32} (h : fX0_better p0 p1 p2 = z) : Mt l G yX0_better cX0_better 3 (some .boolean) (tg_R 0 0) [.int p0, .int p1, .int p2] (w) (fun v w1 => v = some (.int z) ∧ w1 = w) := by
  refine Mt_of2 (own := "TramGod$Duel") (nm := "better") rfl rfl rfl (Nat.le_of_ble_eq_true rfl) (lv := [(0, .int p0), (1, .int p1), (2, .int p2)]) rfl ?_
  unfold fX0_better at h
  refine V_iload_n eX0_better_0 0 rfl ?_
  refine V_if_eq (tgt := 25) eX0_better_1 rfl (fun hb1 => ?_) (fun hb1 => ?_)
  · replace h := (if_pos hb1).symm.trans h
    refine V_iload_n eX0_better_25 1 rfl ?_
    refine V_sipush (v := (1000 : Int32)) eX0_better_26 rfl ?_
    refine V_irem eX0_better_29 (by decide) ?_
    refine V_iload_n eX0_better_30 2 rfl ?_
    refine V_sipush (v := (1000 : Int32)) eX0_better_31 rfl ?_
    refine V_irem eX0_better_34 (by decide) ?_
    refine V_icmp_le (tgt := 42) eX0_better_35 rfl (fun hb2 => ?_) (fun hb2 => ?_)
    · replace h := (if_pos hb2).symm.trans h
      refine V_iconst (v := (0 : Int32)) eX0_better_42 rfl ?_
      subst h
      exact V_zret eX0_better_43 rfl rfl ⟨rfl, rfl⟩
    · replace h := (if_neg hb2).symm.trans h
      refine V_iconst (v := (1 : Int32)) eX0_better_38 rfl ?_
      refine V_goto (tgt := 43) eX0_better_39 rfl ?_
      subst h
      exact V_zret eX0_better_43 rfl rfl ⟨rfl, rfl⟩
  · replace h := (if_neg hb1).symm.trans h
    refine V_iload_n eX0_better_4 1 rfl ?_
    refine V_sipush (v := (1000 : Int32)) eX0_better_5 rfl ?_
    refine V_idiv eX0_better_8 (by decide) ?_
    refine V_iload_n eX0_better_9 2 rfl ?_
    refine V_sipush (v := (1000 : Int32)) eX0_better_10 rfl ?_
    refine V_idiv eX0_better_13 (by decide) ?_
    refine V_icmp_le (tgt := 21) eX0_better_14 rfl (fun hb3 => ?_) (fun hb3 => ?_)
    · replace h := (if_pos hb3).symm.trans h
      refine V_iconst (v := (0 : Int32)) eX0_better_21 rfl ?_
      refine V_goto (tgt := 43) eX0_better_22 rfl ?_
      subst h
      exact V_zret eX0_better_43 rfl rfl ⟨rfl, rfl⟩
    · replace h := (if_neg hb3).symm.trans h
      refine V_iconst (v := (1 : Int32)) eX0_better_17 rfl ?_
      refine V_goto (tgt := 43) eX0_better_18 rfl ?_
      subst h
      exact V_zret eX0_better_43 rfl rfl ⟨rfl, rfl⟩
theorem bzX0_better (p0 : Int32) (p1 : Int32) (p2 : Int32) : narrow .boolean (.int (fX0_better p0 p1 p2)) = .int (fX0_better p0 p1 p2) := by
  unfold fX0_better
  repeat' split
  all_goals first | rfl
theorem hdX0_findMove : yX0_findMove.cls ≠ "java/lang/invoke/MethodHandle" ∧ yX0_findMove.cls ≠ "java/lang/invoke/VarHandle" ∧ (parseMethodDescriptor yX0_findMove.desc).map (fun d => d.parameters.length) = some 1 := by decide +kernel
theorem eX0_findMove_0 : Dc cX0_findMove 0 (.aload_n 0) 1 1 := ⟨by decide +kernel, rfl⟩
theorem eX0_findMove_1 : Dc cX0_findMove 1 (.bipush (-6)) 2 3 := ⟨by decide +kernel, rfl⟩
theorem eX0_findMove_3 : Dc cX0_findMove 3 (.putfield 93) 3 6 := ⟨by decide +kernel, rfl⟩
theorem eX0_findMove_6 : Dc cX0_findMove 6 (.aload_n 0) 1 7 := ⟨by decide +kernel, rfl⟩
theorem eX0_findMove_7 : Dc cX0_findMove 7 (.iconst 0) 1 8 := ⟨by decide +kernel, rfl⟩
theorem eX0_findMove_8 : Dc cX0_findMove 8 (.putfield 87) 3 11 := ⟨by decide +kernel, rfl⟩
theorem eX0_findMove_11 : Dc cX0_findMove 11 (.iconst 0) 1 12 := ⟨by decide +kernel, rfl⟩
theorem eX0_findMove_12 : Dc cX0_findMove 12 (.istore_n 2) 1 13 := ⟨by decide +kernel, rfl⟩
theorem eX0_findMove_13 : Dc cX0_findMove 13 (.iload_n 2) 1 14 := ⟨by decide +kernel, rfl⟩
theorem eX0_findMove_14 : Dc cX0_findMove 14 (.aload_n 0) 1 15 := ⟨by decide +kernel, rfl⟩
theorem eX0_findMove_15 : Dc cX0_findMove 15 (.getfield 24) 3 18 := ⟨by decide +kernel, rfl⟩
theorem eX0_findMove_18 : Dc cX0_findMove 18 (.getfield 32) 3 21 := ⟨by decide +kernel, rfl⟩
theorem eX0_findMove_21 : Dc cX0_findMove 21 (.if_icmp .ge 79) 3 24 := ⟨by decide +kernel, rfl⟩
theorem eX0_findMove_24 : Dc cX0_findMove 24 (.aload_n 0) 1 25 := ⟨by decide +kernel, rfl⟩
theorem eX0_findMove_25 : Dc cX0_findMove 25 (.getfield 21) 3 28 := ⟨by decide +kernel, rfl⟩
theorem eX0_findMove_28 : Dc cX0_findMove 28 (.iload_n 2) 1 29 := ⟨by decide +kernel, rfl⟩
theorem eX0_findMove_29 : Dc cX0_findMove 29 (.iaload) 1 30 := ⟨by decide +kernel, rfl⟩
theorem eX0_findMove_30 : Dc cX0_findMove 30 (.ifCond .lt 64) 3 33 := ⟨by decide +kernel, rfl⟩
theorem eX0_findMove_33 : Dc cX0_findMove 33 (.iload_n 1) 1 34 := ⟨by decide +kernel, rfl⟩
theorem eX0_findMove_34 : Dc cX0_findMove 34 (.ifCond .eq 17) 3 37 := ⟨by decide +kernel, rfl⟩
theorem eX0_findMove_37 : Dc cX0_findMove 37 (.aload_n 0) 1 38 := ⟨by decide +kernel, rfl⟩
theorem eX0_findMove_38 : Dc cX0_findMove 38 (.getfield 15) 3 41 := ⟨by decide +kernel, rfl⟩
theorem eX0_findMove_41 : Dc cX0_findMove 41 (.aload_n 0) 1 42 := ⟨by decide +kernel, rfl⟩
theorem eX0_findMove_42 : Dc cX0_findMove 42 (.getfield 21) 3 45 := ⟨by decide +kernel, rfl⟩
theorem eX0_findMove_45 : Dc cX0_findMove 45 (.iload_n 2) 1 46 := ⟨by decide +kernel, rfl⟩
theorem eX0_findMove_46 : Dc cX0_findMove 46 (.iaload) 1 47 := ⟨by decide +kernel, rfl⟩
theorem eX0_findMove_47 : Dc cX0_findMove 47 (.iaload) 1 48 := ⟨by decide +kernel, rfl⟩
theorem eX0_findMove_48 : Dc cX0_findMove 48 (.goto 14) 3 51 := ⟨by decide +kernel, rfl⟩
theorem eX0_findMove_51 : Dc cX0_findMove 51 (.aload_n 0) 1 52 := ⟨by decide +kernel, rfl⟩
theorem eX0_findMove_52 : Dc cX0_findMove 52 (.getfield 9) 3 55 := ⟨by decide +kernel, rfl⟩
theorem eX0_findMove_55 : Dc cX0_findMove 55 (.aload_n 0) 1 56 := ⟨by decide +kernel, rfl⟩
theorem eX0_findMove_56 : Dc cX0_findMove 56 (.getfield 21) 3 59 := ⟨by decide +kernel, rfl⟩
theorem eX0_findMove_59 : Dc cX0_findMove 59 (.iload_n 2) 1 60 := ⟨by decide +kernel, rfl⟩
theorem eX0_findMove_60 : Dc cX0_findMove 60 (.iaload) 1 61 := ⟨by decide +kernel, rfl⟩
theorem eX0_findMove_61 : Dc cX0_findMove 61 (.iaload) 1 62 := ⟨by decide +kernel, rfl⟩
theorem eX0_findMove_62 : Dc cX0_findMove 62 (.istore_n 3) 1 63 := ⟨by decide +kernel, rfl⟩
theorem eX0_findMove_63 : Dc cX0_findMove 63 (.aload_n 0) 1 64 := ⟨by decide +kernel, rfl⟩
theorem eX0_findMove_64 : Dc cX0_findMove 64 (.getfield 93) 3 67 := ⟨by decide +kernel, rfl⟩
theorem eX0_findMove_67 : Dc cX0_findMove 67 (.bipush (-6)) 2 69 := ⟨by decide +kernel, rfl⟩
theorem eX0_findMove_69 : Dc cX0_findMove 69 (.if_icmp .eq 15) 3 72 := ⟨by decide +kernel, rfl⟩
theorem eX0_findMove_72 : Dc cX0_findMove 72 (.iload_n 1) 1 73 := ⟨by decide +kernel, rfl⟩
theorem eX0_findMove_73 : Dc cX0_findMove 73 (.iload_n 3) 1 74 := ⟨by decide +kernel, rfl⟩
theorem eX0_findMove_74 : Dc cX0_findMove 74 (.aload_n 0) 1 75 := ⟨by decide +kernel, rfl⟩
theorem eX0_findMove_75 : Dc cX0_findMove 75 (.getfield 87) 3 78 := ⟨by decide +kernel, rfl⟩
theorem eX0_findMove_78 : Dc cX0_findMove 78 (.invokestatic 96) 3 81 := ⟨by decide +kernel, rfl⟩
theorem eX0_findMove_81 : Dc cX0_findMove 81 (.ifCond .eq 13) 3 84 := ⟨by decide +kernel, rfl⟩
theorem eX0_findMove_84 : Dc cX0_findMove 84 (.aload_n 0) 1 85 := ⟨by decide +kernel, rfl⟩
theorem eX0_findMove_85 : Dc cX0_findMove 85 (.iload_n 2) 1 86 := ⟨by decide +kernel, rfl⟩
theorem eX0_findMove_86 : Dc cX0_findMove 86 (.putfield 93) 3 89 := ⟨by decide +kernel, rfl⟩
theorem eX0_findMove_89 : Dc cX0_findMove 89 (.aload_n 0) 1 90 := ⟨by decide +kernel, rfl⟩
theorem eX0_findMove_90 : Dc cX0_findMove 90 (.iload_n 3) 1 91 := ⟨by decide +kernel, rfl⟩
theorem eX0_findMove_91 : Dc cX0_findMove 91 (.putfield 87) 3 94 := ⟨by decide +kernel, rfl⟩
theorem eX0_findMove_94 : Dc cX0_findMove 94 (.iinc 2 1) 3 97 := ⟨by decide +kernel, rfl⟩
theorem eX0_findMove_97 : Dc cX0_findMove 97 (.goto (-84)) 3 100 := ⟨by decide +kernel, rfl⟩
theorem eX0_findMove_100 : Dc cX0_findMove 100 (.return_) 1 101 := ⟨by decide +kernel, rfl⟩
def fX0_findMove_L13  (a1 : Int32) : Nat → Int32 → SS → Option (SS)
  | 0, _, _ => none
  | n + 1, a2, c => if (c.1 1) ≤ a2 then some c else ald 6 (c.2 18) a2 (fun v2 => jn (fun (c3 : SS) => fX0_findMove_L13 a1 n (a2 + (1 : Int32)) c3) (fun j94 => if v2 < (0 : Int32) then j94 c else jn (fun (x5 : Int32) => jn (fun (_ : Unit) => j94 (sF (sF c 11 a2) 10 x5)) (fun j84 => if (c.1 11) = (-6 : Int32) then j84 () else if (fX0_better a1 x5 (c.1 10)) = (0 : Int32) then j94 c else j84 ())) (fun j62 => if a1 = (0 : Int32) then ald 6 (c.2 18) a2 (fun v9 => ald 462 (c.2 15) v9 (fun v10 => j62 v10)) else ald 6 (c.2 18) a2 (fun v11 => ald 462 (c.2 16) v11 (fun v12 => j62 v12)))))
def fX0_findMove (c : SS) (p1 : Int32) : Option (SS) := fX0_findMove_L13 p1 fu (0 : Int32) (sF (sF c 11 (-6 : Int32)) 10 (0 : Int32))
set_option maxRecDepth 20000 in
theorem ctX0_findMove_L13 (l : Launch) (G : tg_G) (A : Nat → Nat)  (a1 : Int32) {z : SS}  : ∀ (n : Nat) (a2 : Int32) (c : SS), fX0_findMove_L13 a1 n a2 c = some z → V l G (tg_Zm G (fun v w1 => v = none ∧ w1 = wC G A z) 0 0) tg_E0 (tg_R 1 22) "TramGod$Duel" "findMove" cX0_findMove 4 none 13 [(0, .ref (A 21)), (1, .int a1), (2, .int a2)] [] (wC G A c) 0 0 := by
  intro n
  induction n with
  | zero => intro a2 c h; exact absurd h (by simp [fX0_findMove_L13])
  | succ n ih =>
    intro a2 c h
    unfold fX0_findMove_L13 at h
    refine V_iload_n eX0_findMove_13 2 rfl ?_
    refine V_aload_n eX0_findMove_14 0 rfl ?_
    refine V_get (v := .ref (A 3)) eX0_findMove_15 inX0 21 rfl rfl 0 (Nat.le_of_ble_eq_true rfl) tw_178 rfl ?_
    refine V_get (v := .int (c.1 1)) eX0_findMove_18 inX5 3 rfl rfl 0 (Nat.le_of_ble_eq_true rfl) tw_43 rfl ?_
    refine V_icmp_ge (tgt := 100) eX0_findMove_21 rfl (fun hb1 => ?_) (fun hb1 => ?_)
    · replace h := (if_pos hb1).symm.trans h
      obtain rfl := Option.some.inj h
      exact V_vret eX0_findMove_100 rfl ⟨rfl, rfl⟩
    · replace h := (if_neg hb1).symm.trans h
      refine V_aload_n eX0_findMove_24 0 rfl ?_
      refine V_get (v := .ref (A 25)) eX0_findMove_25 inX0 21 rfl rfl 5 (Nat.le_of_ble_eq_true rfl) tw_183 rfl ?_
      refine V_iload_n eX0_findMove_28 2 rfl ?_
      obtain ⟨v2, hi2, ev2, h⟩ := ald_some h
      refine V_ialdv eX0_findMove_29 25 rfl hi2 ev2 ?_
      refine jn_elim h (fun j => ∀ (c3 : SS), j c3 = some z → V l G (tg_Zm G (fun v w1 => v = none ∧ w1 = wC G A z) 0 0) tg_E0 (tg_R 1 22) "TramGod$Duel" "findMove" cX0_findMove 4 none 94 [(0, .ref (A 21)), (1, .int a1), (2, .int a2)] [] (wC G A c3) 0 0) ?_ (fun j94 hj94 h => ?_)
      · intro c3 h
        refine V_iinc (v := (a2 + (1 : Int32))) (lv' := [(2, .int (a2 + (1 : Int32))), (0, .ref (A 21)), (1, .int a1)]) eX0_findMove_94 2 rfl rfl (Nat.le_of_ble_eq_true rfl) rfl ?_
        refine V_goto (tgt := 13) eX0_findMove_97 rfl ?_
        refine V_lv (lv' := [(0, .ref (A 21)), (1, .int a1), (2, .int (a2 + (1 : Int32)))]) [1, 2, 0] rfl ?_
        exact ih (a2 + (1 : Int32)) c3 h
      refine V_if_lt (tgt := 94) eX0_findMove_30 rfl (fun hb4 => ?_) (fun hb4 => ?_)
      · replace h := (if_pos hb4).symm.trans h
        exact hj94 c h
      · replace h := (if_neg hb4).symm.trans h
        refine V_iload_n eX0_findMove_33 1 rfl ?_
        refine jn_elim h (fun j => ∀ (x5 : Int32), j x5 = some z → V l G (tg_Zm G (fun v w1 => v = none ∧ w1 = wC G A z) 0 0) tg_E0 (tg_R 1 22) "TramGod$Duel" "findMove" cX0_findMove 4 none 62 [(0, .ref (A 21)), (1, .int a1), (2, .int a2)] [.int x5] (wC G A c) 0 0) ?_ (fun j62 hj62 h => ?_)
        · intro x5 h
          refine V_istore_n (lv' := [(3, .int x5), (0, .ref (A 21)), (1, .int a1), (2, .int a2)]) eX0_findMove_62 (Nat.le_of_ble_eq_true rfl) rfl ?_
          refine V_aload_n eX0_findMove_63 1 rfl ?_
          refine V_get (v := .int (c.1 11)) eX0_findMove_64 inX0 21 rfl rfl 8 (Nat.le_of_ble_eq_true rfl) tw_187 rfl ?_
          refine V_bipush (v := (-6 : Int32)) eX0_findMove_67 rfl ?_
          refine jn_elim h (fun j => j () = some z → V l G (tg_Zm G (fun v w1 => v = none ∧ w1 = wC G A z) 0 0) tg_E0 (tg_R 1 22) "TramGod$Duel" "findMove" cX0_findMove 4 none 84 [(0, .ref (A 21)), (1, .int a1), (2, .int a2), (3, .int x5)] [] (wC G A c) 0 0) ?_ (fun j84 hj84 h => ?_)
          · intro h
            refine V_aload_n eX0_findMove_84 0 rfl ?_
            refine V_iload_n eX0_findMove_85 2 rfl ?_
            refine V_put (w' := wC G A (sF c 11 a2)) eX0_findMove_86 inX0 tyX0 tyX0_ok nmX0 21 rfl rfl 8 (Nat.le_of_ble_eq_true rfl) tw_187 rfl rfl rfl rfl (Nat.le_of_ble_eq_true rfl) rfl ?_
            refine V_aload_n eX0_findMove_89 0 rfl ?_
            refine V_iload_n eX0_findMove_90 3 rfl ?_
            refine V_put (w' := wC G A (sF (sF c 11 a2) 10 x5)) eX0_findMove_91 inX0 tyX0 tyX0_ok nmX0 21 rfl rfl 7 (Nat.le_of_ble_eq_true rfl) tw_186 rfl rfl rfl rfl (Nat.le_of_ble_eq_true rfl) rfl ?_
            refine V_lv (lv' := [(0, .ref (A 21)), (1, .int a1), (2, .int a2)]) [0, 1, 2] rfl ?_
            exact hj94 (sF (sF c 11 a2) 10 x5) h
          refine V_icmp_eq (tgt := 84) eX0_findMove_69 rfl (fun hb6 => ?_) (fun hb6 => ?_)
          · replace h := (if_pos hb6).symm.trans h
            refine V_lv (lv' := [(0, .ref (A 21)), (1, .int a1), (2, .int a2), (3, .int x5)]) [1, 2, 3, 0] rfl ?_
            exact hj84 h
          · replace h := (if_neg hb6).symm.trans h
            refine V_iload_n eX0_findMove_72 2 rfl ?_
            refine V_iload_n eX0_findMove_73 0 rfl ?_
            refine V_aload_n eX0_findMove_74 1 rfl ?_
            refine V_get (v := .int (c.1 10)) eX0_findMove_75 inX0 21 rfl rfl 7 (Nat.le_of_ble_eq_true rfl) tw_186 rfl ?_
            refine V_callSi (rest := []) eX0_findMove_78 (ctX0_better l G _ a1 x5 (c.1 10) rfl) tc_536 tw_534 tw_7 tw_535 hdX0_better rfl ⟨Nat.le_of_ble_eq_true rfl, Nat.le_of_ble_eq_true rfl⟩ rfl (Nat.le_of_ble_eq_true rfl) ⟨Nat.zero_le _, Nat.zero_le _⟩ ?_
            refine V_if_eq (tgt := 94) eX0_findMove_81 rfl (fun hb7 => ?_) (fun hb7 => ?_)
            · replace h := (if_pos hb7).symm.trans h
              refine V_lv (lv' := [(0, .ref (A 21)), (1, .int a1), (2, .int a2)]) [1, 2, 3] rfl ?_
              exact hj94 c h
            · replace h := (if_neg hb7).symm.trans h
              refine V_lv (lv' := [(0, .ref (A 21)), (1, .int a1), (2, .int a2), (3, .int x5)]) [1, 2, 3, 0] rfl ?_
              exact hj84 h
        refine V_if_eq (tgt := 51) eX0_findMove_34 rfl (fun hb8 => ?_) (fun hb8 => ?_)
        · replace h := (if_pos hb8).symm.trans h
          refine V_aload_n eX0_findMove_51 0 rfl ?_
          refine V_get (v := .ref (A 22)) eX0_findMove_52 inX0 21 rfl rfl 2 (Nat.le_of_ble_eq_true rfl) tw_180 rfl ?_
          refine V_aload_n eX0_findMove_55 0 rfl ?_
          refine V_get (v := .ref (A 25)) eX0_findMove_56 inX0 21 rfl rfl 5 (Nat.le_of_ble_eq_true rfl) tw_183 rfl ?_
          refine V_iload_n eX0_findMove_59 2 rfl ?_
          obtain ⟨v9, hi9, ev9, h⟩ := ald_some h
          refine V_ialdv eX0_findMove_60 25 rfl hi9 ev9 ?_
          obtain ⟨v10, hi10, ev10, h⟩ := ald_some h
          refine V_ialdv eX0_findMove_61 22 rfl hi10 ev10 ?_
          exact hj62 v10 h
        · replace h := (if_neg hb8).symm.trans h
          refine V_aload_n eX0_findMove_37 0 rfl ?_
          refine V_get (v := .ref (A 23)) eX0_findMove_38 inX0 21 rfl rfl 3 (Nat.le_of_ble_eq_true rfl) tw_181 rfl ?_
          refine V_aload_n eX0_findMove_41 0 rfl ?_
          refine V_get (v := .ref (A 25)) eX0_findMove_42 inX0 21 rfl rfl 5 (Nat.le_of_ble_eq_true rfl) tw_183 rfl ?_
          refine V_iload_n eX0_findMove_45 2 rfl ?_
          obtain ⟨v11, hi11, ev11, h⟩ := ald_some h
          refine V_ialdv eX0_findMove_46 25 rfl hi11 ev11 ?_
          obtain ⟨v12, hi12, ev12, h⟩ := ald_some h
          refine V_ialdv eX0_findMove_47 23 rfl hi12 ev12 ?_
          refine V_goto (tgt := 62) eX0_findMove_48 rfl ?_
          exact hj62 v12 h
set_option maxRecDepth 20000 in
theorem ctX0_findMove (l : Launch) (G : tg_G) (A : Nat → Nat) (c : SS) (p1 : Int32) {z : SS} (h : fX0_findMove c p1 = some z) : Mt l G yX0_findMove cX0_findMove 4 none (tg_R 1 22) [.ref (A 21), .int p1] (wC G A c) (fun v w1 => v = none ∧ w1 = wC G A z) := by
  refine Mt_of2 (own := "TramGod$Duel") (nm := "findMove") rfl rfl rfl (Nat.le_of_ble_eq_true rfl) (lv := [(0, .ref (A 21)), (1, .int p1)]) rfl ?_
  unfold fX0_findMove at h
  refine V_aload_n eX0_findMove_0 0 rfl ?_
  refine V_bipush (v := (-6 : Int32)) eX0_findMove_1 rfl ?_
  refine V_put (w' := wC G A (sF c 11 (-6 : Int32))) eX0_findMove_3 inX0 tyX0 tyX0_ok nmX0 21 rfl rfl 8 (Nat.le_of_ble_eq_true rfl) tw_187 rfl rfl rfl rfl (Nat.le_of_ble_eq_true rfl) rfl ?_
  refine V_aload_n eX0_findMove_6 0 rfl ?_
  refine V_iconst (v := (0 : Int32)) eX0_findMove_7 rfl ?_
  refine V_put (w' := wC G A (sF (sF c 11 (-6 : Int32)) 10 (0 : Int32))) eX0_findMove_8 inX0 tyX0 tyX0_ok nmX0 21 rfl rfl 7 (Nat.le_of_ble_eq_true rfl) tw_186 rfl rfl rfl rfl (Nat.le_of_ble_eq_true rfl) rfl ?_
  refine V_iconst (v := (0 : Int32)) eX0_findMove_11 rfl ?_
  refine V_istore_n (lv' := [(2, .int (0 : Int32)), (0, .ref (A 21)), (1, .int p1)]) eX0_findMove_12 (Nat.le_of_ble_eq_true rfl) rfl ?_
  refine V_lv (lv' := [(0, .ref (A 21)), (1, .int p1), (2, .int (0 : Int32))]) [1, 2, 0] rfl ?_
  refine ctX0_findMove_L13 l G A p1 fu (0 : Int32) (sF (sF c 11 (-6 : Int32)) 10 (0 : Int32)) h
theorem hdX0_settle : yX0_settle.cls ≠ "java/lang/invoke/MethodHandle" ∧ yX0_settle.cls ≠ "java/lang/invoke/VarHandle" ∧ (parseMethodDescriptor yX0_settle.desc).map (fun d => d.parameters.length) = some 1 := by decide +kernel
theorem eX0_settle_0 : Dc cX0_settle 0 (.aload_n 0) 1 1 := ⟨by decide +kernel, rfl⟩
theorem eX0_settle_1 : Dc cX0_settle 1 (.getfield 28) 3 4 := ⟨by decide +kernel, rfl⟩
theorem eX0_settle_4 : Dc cX0_settle 4 (.aload_n 0) 1 5 := ⟨by decide +kernel, rfl⟩
theorem eX0_settle_5 : Dc cX0_settle 5 (.getfield 18) 3 8 := ⟨by decide +kernel, rfl⟩
theorem eX0_settle_8 : Dc cX0_settle 8 (.invokevirtual 70) 3 11 := ⟨by decide +kernel, rfl⟩
theorem eX0_settle_11 : Dc cX0_settle 11 (.istore_n 2) 1 12 := ⟨by decide +kernel, rfl⟩
theorem eX0_settle_12 : Dc cX0_settle 12 (.aload_n 0) 1 13 := ⟨by decide +kernel, rfl⟩
theorem eX0_settle_13 : Dc cX0_settle 13 (.getfield 24) 3 16 := ⟨by decide +kernel, rfl⟩
theorem eX0_settle_16 : Dc cX0_settle 16 (.iload_n 2) 1 17 := ⟨by decide +kernel, rfl⟩
theorem eX0_settle_17 : Dc cX0_settle 17 (.invokevirtual 76) 3 20 := ⟨by decide +kernel, rfl⟩
theorem eX0_settle_20 : Dc cX0_settle 20 (.sipush 500) 3 23 := ⟨by decide +kernel, rfl⟩
theorem eX0_settle_23 : Dc cX0_settle 23 (.iadd) 1 24 := ⟨by decide +kernel, rfl⟩
theorem eX0_settle_24 : Dc cX0_settle 24 (.sipush 1000) 3 27 := ⟨by decide +kernel, rfl⟩
theorem eX0_settle_27 : Dc cX0_settle 27 (.imul) 1 28 := ⟨by decide +kernel, rfl⟩
theorem eX0_settle_28 : Dc cX0_settle 28 (.aload_n 0) 1 29 := ⟨by decide +kernel, rfl⟩
theorem eX0_settle_29 : Dc cX0_settle 29 (.getfield 24) 3 32 := ⟨by decide +kernel, rfl⟩
theorem eX0_settle_32 : Dc cX0_settle 32 (.iload_n 2) 1 33 := ⟨by decide +kernel, rfl⟩
theorem eX0_settle_33 : Dc cX0_settle 33 (.invokevirtual 80) 3 36 := ⟨by decide +kernel, rfl⟩
theorem eX0_settle_36 : Dc cX0_settle 36 (.iadd) 1 37 := ⟨by decide +kernel, rfl⟩
theorem eX0_settle_37 : Dc cX0_settle 37 (.sipush 500) 3 40 := ⟨by decide +kernel, rfl⟩
theorem eX0_settle_40 : Dc cX0_settle 40 (.iadd) 1 41 := ⟨by decide +kernel, rfl⟩
theorem eX0_settle_41 : Dc cX0_settle 41 (.istore_n 3) 1 42 := ⟨by decide +kernel, rfl⟩
theorem eX0_settle_42 : Dc cX0_settle 42 (.aload_n 0) 1 43 := ⟨by decide +kernel, rfl⟩
theorem eX0_settle_43 : Dc cX0_settle 43 (.iconst 0) 1 44 := ⟨by decide +kernel, rfl⟩
theorem eX0_settle_44 : Dc cX0_settle 44 (.invokevirtual 83) 3 47 := ⟨by decide +kernel, rfl⟩
theorem eX0_settle_47 : Dc cX0_settle 47 (.aload_n 0) 1 48 := ⟨by decide +kernel, rfl⟩
theorem eX0_settle_48 : Dc cX0_settle 48 (.getfield 87) 3 51 := ⟨by decide +kernel, rfl⟩
theorem eX0_settle_51 : Dc cX0_settle 51 (.istore 4) 2 53 := ⟨by decide +kernel, rfl⟩
theorem eX0_settle_53 : Dc cX0_settle 53 (.aload_n 0) 1 54 := ⟨by decide +kernel, rfl⟩
theorem eX0_settle_54 : Dc cX0_settle 54 (.iconst 1) 1 55 := ⟨by decide +kernel, rfl⟩
theorem eX0_settle_55 : Dc cX0_settle 55 (.invokevirtual 83) 3 58 := ⟨by decide +kernel, rfl⟩
theorem eX0_settle_58 : Dc cX0_settle 58 (.aload_n 0) 1 59 := ⟨by decide +kernel, rfl⟩
theorem eX0_settle_59 : Dc cX0_settle 59 (.bipush (-6)) 2 61 := ⟨by decide +kernel, rfl⟩
theorem eX0_settle_61 : Dc cX0_settle 61 (.putfield 90) 3 64 := ⟨by decide +kernel, rfl⟩
theorem eX0_settle_64 : Dc cX0_settle 64 (.aload_n 0) 1 65 := ⟨by decide +kernel, rfl⟩
theorem eX0_settle_65 : Dc cX0_settle 65 (.getfield 93) 3 68 := ⟨by decide +kernel, rfl⟩
theorem eX0_settle_68 : Dc cX0_settle 68 (.bipush (-6)) 2 70 := ⟨by decide +kernel, rfl⟩
theorem eX0_settle_70 : Dc cX0_settle 70 (.if_icmp .ne 18) 3 73 := ⟨by decide +kernel, rfl⟩
theorem eX0_settle_73 : Dc cX0_settle 73 (.aload_n 0) 1 74 := ⟨by decide +kernel, rfl⟩
theorem eX0_settle_74 : Dc cX0_settle 74 (.getfield 9) 3 77 := ⟨by decide +kernel, rfl⟩
theorem eX0_settle_77 : Dc cX0_settle 77 (.iload_n 1) 1 78 := ⟨by decide +kernel, rfl⟩
theorem eX0_settle_78 : Dc cX0_settle 78 (.iload_n 3) 1 79 := ⟨by decide +kernel, rfl⟩
theorem eX0_settle_79 : Dc cX0_settle 79 (.iastore) 1 80 := ⟨by decide +kernel, rfl⟩
theorem eX0_settle_80 : Dc cX0_settle 80 (.aload_n 0) 1 81 := ⟨by decide +kernel, rfl⟩
theorem eX0_settle_81 : Dc cX0_settle 81 (.getfield 15) 3 84 := ⟨by decide +kernel, rfl⟩
theorem eX0_settle_84 : Dc cX0_settle 84 (.iload_n 1) 1 85 := ⟨by decide +kernel, rfl⟩
theorem eX0_settle_85 : Dc cX0_settle 85 (.iload_n 3) 1 86 := ⟨by decide +kernel, rfl⟩
theorem eX0_settle_86 : Dc cX0_settle 86 (.iastore) 1 87 := ⟨by decide +kernel, rfl⟩
theorem eX0_settle_87 : Dc cX0_settle 87 (.return_) 1 88 := ⟨by decide +kernel, rfl⟩
theorem eX0_settle_88 : Dc cX0_settle 88 (.iconst 0) 1 89 := ⟨by decide +kernel, rfl⟩
theorem eX0_settle_89 : Dc cX0_settle 89 (.iload 4) 2 91 := ⟨by decide +kernel, rfl⟩
theorem eX0_settle_91 : Dc cX0_settle 91 (.iload_n 3) 1 92 := ⟨by decide +kernel, rfl⟩
theorem eX0_settle_92 : Dc cX0_settle 92 (.invokestatic 96) 3 95 := ⟨by decide +kernel, rfl⟩
theorem eX0_settle_95 : Dc cX0_settle 95 (.ifCond .eq 8) 3 98 := ⟨by decide +kernel, rfl⟩
theorem eX0_settle_98 : Dc cX0_settle 98 (.iload 4) 2 100 := ⟨by decide +kernel, rfl⟩
theorem eX0_settle_100 : Dc cX0_settle 100 (.goto 4) 3 103 := ⟨by decide +kernel, rfl⟩
theorem eX0_settle_103 : Dc cX0_settle 103 (.iload_n 3) 1 104 := ⟨by decide +kernel, rfl⟩
theorem eX0_settle_104 : Dc cX0_settle 104 (.istore 5) 2 106 := ⟨by decide +kernel, rfl⟩
theorem eX0_settle_106 : Dc cX0_settle 106 (.iconst 1) 1 107 := ⟨by decide +kernel, rfl⟩
theorem eX0_settle_107 : Dc cX0_settle 107 (.aload_n 0) 1 108 := ⟨by decide +kernel, rfl⟩
theorem eX0_settle_108 : Dc cX0_settle 108 (.getfield 87) 3 111 := ⟨by decide +kernel, rfl⟩
theorem eX0_settle_111 : Dc cX0_settle 111 (.iload_n 3) 1 112 := ⟨by decide +kernel, rfl⟩
theorem eX0_settle_112 : Dc cX0_settle 112 (.invokestatic 96) 3 115 := ⟨by decide +kernel, rfl⟩
theorem eX0_settle_115 : Dc cX0_settle 115 (.ifCond .eq 10) 3 118 := ⟨by decide +kernel, rfl⟩
theorem eX0_settle_118 : Dc cX0_settle 118 (.aload_n 0) 1 119 := ⟨by decide +kernel, rfl⟩
theorem eX0_settle_119 : Dc cX0_settle 119 (.getfield 87) 3 122 := ⟨by decide +kernel, rfl⟩
theorem eX0_settle_122 : Dc cX0_settle 122 (.goto 4) 3 125 := ⟨by decide +kernel, rfl⟩
theorem eX0_settle_125 : Dc cX0_settle 125 (.iload_n 3) 1 126 := ⟨by decide +kernel, rfl⟩
theorem eX0_settle_126 : Dc cX0_settle 126 (.istore 6) 2 128 := ⟨by decide +kernel, rfl⟩
theorem eX0_settle_128 : Dc cX0_settle 128 (.aload_n 0) 1 129 := ⟨by decide +kernel, rfl⟩
theorem eX0_settle_129 : Dc cX0_settle 129 (.getfield 15) 3 132 := ⟨by decide +kernel, rfl⟩
theorem eX0_settle_132 : Dc cX0_settle 132 (.iload_n 1) 1 133 := ⟨by decide +kernel, rfl⟩
theorem eX0_settle_133 : Dc cX0_settle 133 (.iconst 0) 1 134 := ⟨by decide +kernel, rfl⟩
theorem eX0_settle_134 : Dc cX0_settle 134 (.iload 4) 2 136 := ⟨by decide +kernel, rfl⟩
theorem eX0_settle_136 : Dc cX0_settle 136 (.iload 6) 2 138 := ⟨by decide +kernel, rfl⟩
theorem eX0_settle_138 : Dc cX0_settle 138 (.invokestatic 96) 3 141 := ⟨by decide +kernel, rfl⟩
theorem eX0_settle_141 : Dc cX0_settle 141 (.ifCond .eq 8) 3 144 := ⟨by decide +kernel, rfl⟩
theorem eX0_settle_144 : Dc cX0_settle 144 (.iload 4) 2 146 := ⟨by decide +kernel, rfl⟩
theorem eX0_settle_146 : Dc cX0_settle 146 (.goto 5) 3 149 := ⟨by decide +kernel, rfl⟩
theorem eX0_settle_149 : Dc cX0_settle 149 (.iload 6) 2 151 := ⟨by decide +kernel, rfl⟩
theorem eX0_settle_151 : Dc cX0_settle 151 (.iastore) 1 152 := ⟨by decide +kernel, rfl⟩
theorem eX0_settle_152 : Dc cX0_settle 152 (.aload_n 0) 1 153 := ⟨by decide +kernel, rfl⟩
theorem eX0_settle_153 : Dc cX0_settle 153 (.getfield 9) 3 156 := ⟨by decide +kernel, rfl⟩
theorem eX0_settle_156 : Dc cX0_settle 156 (.iload_n 1) 1 157 := ⟨by decide +kernel, rfl⟩
theorem eX0_settle_157 : Dc cX0_settle 157 (.iload 5) 2 159 := ⟨by decide +kernel, rfl⟩
theorem eX0_settle_159 : Dc cX0_settle 159 (.iastore) 1 160 := ⟨by decide +kernel, rfl⟩
theorem eX0_settle_160 : Dc cX0_settle 160 (.iconst 1) 1 161 := ⟨by decide +kernel, rfl⟩
theorem eX0_settle_161 : Dc cX0_settle 161 (.aload_n 0) 1 162 := ⟨by decide +kernel, rfl⟩
theorem eX0_settle_162 : Dc cX0_settle 162 (.getfield 87) 3 165 := ⟨by decide +kernel, rfl⟩
theorem eX0_settle_165 : Dc cX0_settle 165 (.iload 5) 2 167 := ⟨by decide +kernel, rfl⟩
theorem eX0_settle_167 : Dc cX0_settle 167 (.invokestatic 96) 3 170 := ⟨by decide +kernel, rfl⟩
theorem eX0_settle_170 : Dc cX0_settle 170 (.ifCond .eq 21) 3 173 := ⟨by decide +kernel, rfl⟩
theorem eX0_settle_173 : Dc cX0_settle 173 (.aload_n 0) 1 174 := ⟨by decide +kernel, rfl⟩
theorem eX0_settle_174 : Dc cX0_settle 174 (.getfield 9) 3 177 := ⟨by decide +kernel, rfl⟩
theorem eX0_settle_177 : Dc cX0_settle 177 (.iload_n 1) 1 178 := ⟨by decide +kernel, rfl⟩
theorem eX0_settle_178 : Dc cX0_settle 178 (.aload_n 0) 1 179 := ⟨by decide +kernel, rfl⟩
theorem eX0_settle_179 : Dc cX0_settle 179 (.getfield 87) 3 182 := ⟨by decide +kernel, rfl⟩
theorem eX0_settle_182 : Dc cX0_settle 182 (.iastore) 1 183 := ⟨by decide +kernel, rfl⟩
theorem eX0_settle_183 : Dc cX0_settle 183 (.aload_n 0) 1 184 := ⟨by decide +kernel, rfl⟩
theorem eX0_settle_184 : Dc cX0_settle 184 (.aload_n 0) 1 185 := ⟨by decide +kernel, rfl⟩
theorem eX0_settle_185 : Dc cX0_settle 185 (.getfield 93) 3 188 := ⟨by decide +kernel, rfl⟩
theorem eX0_settle_188 : Dc cX0_settle 188 (.putfield 90) 3 191 := ⟨by decide +kernel, rfl⟩
theorem eX0_settle_191 : Dc cX0_settle 191 (.return_) 1 192 := ⟨by decide +kernel, rfl⟩
def fX0_settle (c : SS) (p1 : Int32) : Option (SS) := Option.bind (fX4_ridersBy_24 c) (fun q1 => Option.bind (fX5_goodOf c q1) (fun q2 => Option.bind (fX5_othersOf c q1) (fun q3 => Option.bind (fX0_findMove c (0 : Int32)) (fun q4 => Option.bind (fX0_findMove q4 (1 : Int32)) (fun q5 => if (q5.1 11) = (-6 : Int32) then ckb 462 p1 (ckb 462 p1 (some (sA (sA (sF q5 9 (-6 : Int32)) 15 (p1).toNatClampNeg ((((q2 + (500 : Int32)) * (1000 : Int32)) + q3) + (500 : Int32))) 16 (p1).toNatClampNeg ((((q2 + (500 : Int32)) * (1000 : Int32)) + q3) + (500 : Int32))))) else jn (fun (x7 : Int32) => jn (fun (x8 : Int32) => jn (fun (x9 : Int32) => ckb 462 p1 (ckb 462 p1 (if (fX0_better (1 : Int32) (q5.1 10) x7) = (0 : Int32) then some (sA (sA (sF q5 9 (-6 : Int32)) 16 (p1).toNatClampNeg x9) 15 (p1).toNatClampNeg x7) else ckb 462 p1 (some (sF (sA (sA (sA (sF q5 9 (-6 : Int32)) 16 (p1).toNatClampNeg x9) 15 (p1).toNatClampNeg x7) 15 (p1).toNatClampNeg (q5.1 10)) 9 (q5.1 11)))))) (fun j151 => if (fX0_better (0 : Int32) (q4.1 10) x8) = (0 : Int32) then j151 x8 else j151 (q4.1 10))) (fun j126 => if (fX0_better (1 : Int32) (q5.1 10) ((((q2 + (500 : Int32)) * (1000 : Int32)) + q3) + (500 : Int32))) = (0 : Int32) then j126 ((((q2 + (500 : Int32)) * (1000 : Int32)) + q3) + (500 : Int32)) else j126 (q5.1 10))) (fun j104 => if (fX0_better (0 : Int32) (q4.1 10) ((((q2 + (500 : Int32)) * (1000 : Int32)) + q3) + (500 : Int32))) = (0 : Int32) then j104 ((((q2 + (500 : Int32)) * (1000 : Int32)) + q3) + (500 : Int32)) else j104 (q4.1 10)))))))
set_option maxRecDepth 20000 in
theorem ctX0_settle (l : Launch) (G : tg_G) (A : Nat → Nat) (c : SS) (p1 : Int32) {z : SS} (h : fX0_settle c p1 = some z) : Mt l G yX0_settle cX0_settle 7 none (tg_R 2 45) [.ref (A 21), .int p1] (wC G A c) (fun v w1 => v = none ∧ w1 = wC G A z) := by
  refine Mt_of2 (own := "TramGod$Duel") (nm := "settle") rfl rfl rfl (Nat.le_of_ble_eq_true rfl) (lv := [(0, .ref (A 21)), (1, .int p1)]) rfl ?_
  unfold fX0_settle at h
  refine V_aload_n eX0_settle_0 0 rfl ?_
  refine V_get (v := .ref (A 11)) eX0_settle_1 inX0 21 rfl rfl 1 (Nat.le_of_ble_eq_true rfl) tw_179 rfl ?_
  refine V_aload_n eX0_settle_4 0 rfl ?_
  refine V_get (v := .ref (A 24)) eX0_settle_5 inX0 21 rfl rfl 4 (Nat.le_of_ble_eq_true rfl) tw_182 rfl ?_
  obtain ⟨q1, hc1, h⟩ := Option.bind_eq_some_iff.mp h
  refine V_callVi (rest := []) eX0_settle_8 (ctX4_ridersBy_24 l G A c hc1) tc_365 tw_527 tw_4 tw_363 tw_364 11 rfl rfl hdX4_ridersBy rfl ⟨Nat.le_of_ble_eq_true rfl, Nat.le_of_ble_eq_true rfl⟩ rfl (Nat.le_of_ble_eq_true rfl) ⟨Nat.zero_le _, Nat.zero_le _⟩ ?_
  refine V_istore_n (lv' := [(2, .int q1), (0, .ref (A 21)), (1, .int p1)]) eX0_settle_11 (Nat.le_of_ble_eq_true rfl) rfl ?_
  refine V_aload_n eX0_settle_12 1 rfl ?_
  refine V_get (v := .ref (A 3)) eX0_settle_13 inX0 21 rfl rfl 0 (Nat.le_of_ble_eq_true rfl) tw_178 rfl ?_
  refine V_iload_n eX0_settle_16 0 rfl ?_
  obtain ⟨q2, hc2, h⟩ := Option.bind_eq_some_iff.mp h
  refine V_callVi (rest := []) eX0_settle_17 (ctX5_goodOf l G A c q1 hc2) tc_377 tw_528 tw_3 tw_375 tw_376 3 rfl rfl hdX5_goodOf rfl ⟨Nat.le_of_ble_eq_true rfl, Nat.le_of_ble_eq_true rfl⟩ rfl (Nat.le_of_ble_eq_true rfl) ⟨Nat.zero_le _, Nat.zero_le _⟩ ?_
  refine V_sipush (v := (500 : Int32)) eX0_settle_20 rfl ?_
  refine V_iadd eX0_settle_23 ?_
  refine V_sipush (v := (1000 : Int32)) eX0_settle_24 rfl ?_
  refine V_imul eX0_settle_27 ?_
  refine V_aload_n eX0_settle_28 1 rfl ?_
  refine V_get (v := .ref (A 3)) eX0_settle_29 inX0 21 rfl rfl 0 (Nat.le_of_ble_eq_true rfl) tw_178 rfl ?_
  refine V_iload_n eX0_settle_32 0 rfl ?_
  obtain ⟨q3, hc3, h⟩ := Option.bind_eq_some_iff.mp h
  refine V_callVi (rest := [.int ((q2 + (500 : Int32)) * (1000 : Int32))]) eX0_settle_33 (ctX5_othersOf l G A c q1 hc3) tc_385 tw_529 tw_3 tw_383 tw_384 3 rfl rfl hdX5_othersOf rfl ⟨Nat.le_of_ble_eq_true rfl, Nat.le_of_ble_eq_true rfl⟩ rfl (Nat.le_of_ble_eq_true rfl) ⟨Nat.zero_le _, Nat.zero_le _⟩ ?_
  refine V_iadd eX0_settle_36 ?_
  refine V_sipush (v := (500 : Int32)) eX0_settle_37 rfl ?_
  refine V_iadd eX0_settle_40 ?_
  refine V_istore_n (lv' := [(3, .int ((((q2 + (500 : Int32)) * (1000 : Int32)) + q3) + (500 : Int32))), (2, .int q1), (0, .ref (A 21)), (1, .int p1)]) eX0_settle_41 (Nat.le_of_ble_eq_true rfl) rfl ?_
  refine V_aload_n eX0_settle_42 2 rfl ?_
  refine V_iconst (v := (0 : Int32)) eX0_settle_43 rfl ?_
  obtain ⟨q4, hc4, h⟩ := Option.bind_eq_some_iff.mp h
  refine V_callVv (rest := []) eX0_settle_44 (ctX0_findMove l G A c (0 : Int32) hc4) tc_533 tw_530 tw_7 tw_532 ts_17 21 rfl rfl hdX0_findMove rfl ⟨Nat.le_of_ble_eq_true rfl, Nat.le_of_ble_eq_true rfl⟩ rfl (Nat.le_of_ble_eq_true rfl) ⟨Nat.zero_le _, Nat.zero_le _⟩ ?_
  refine V_aload_n eX0_settle_47 2 rfl ?_
  refine V_get (v := .int (q4.1 10)) eX0_settle_48 inX0 21 rfl rfl 7 (Nat.le_of_ble_eq_true rfl) tw_186 rfl ?_
  refine V_istore (lv' := [(4, .int (q4.1 10)), (3, .int ((((q2 + (500 : Int32)) * (1000 : Int32)) + q3) + (500 : Int32))), (2, .int q1), (0, .ref (A 21)), (1, .int p1)]) eX0_settle_51 (Nat.le_of_ble_eq_true rfl) rfl ?_
  refine V_aload_n eX0_settle_53 3 rfl ?_
  refine V_iconst (v := (1 : Int32)) eX0_settle_54 rfl ?_
  obtain ⟨q5, hc5, h⟩ := Option.bind_eq_some_iff.mp h
  refine V_callVv (rest := []) eX0_settle_55 (ctX0_findMove l G A q4 (1 : Int32) hc5) tc_533 tw_530 tw_7 tw_532 ts_17 21 rfl rfl hdX0_findMove rfl ⟨Nat.le_of_ble_eq_true rfl, Nat.le_of_ble_eq_true rfl⟩ rfl (Nat.le_of_ble_eq_true rfl) ⟨Nat.zero_le _, Nat.zero_le _⟩ ?_
  refine V_aload_n eX0_settle_58 3 rfl ?_
  refine V_bipush (v := (-6 : Int32)) eX0_settle_59 rfl ?_
  refine V_put (w' := wC G A (sF q5 9 (-6 : Int32))) eX0_settle_61 inX0 tyX0 tyX0_ok nmX0 21 rfl rfl 6 (Nat.le_of_ble_eq_true rfl) tw_184 rfl rfl rfl rfl (Nat.le_of_ble_eq_true rfl) rfl ?_
  refine V_aload_n eX0_settle_64 3 rfl ?_
  refine V_get (v := .int (q5.1 11)) eX0_settle_65 inX0 21 rfl rfl 8 (Nat.le_of_ble_eq_true rfl) tw_187 rfl ?_
  refine V_bipush (v := (-6 : Int32)) eX0_settle_68 rfl ?_
  refine V_icmp_ne (tgt := 88) eX0_settle_70 rfl (fun hb6 => ?_) (fun hb6 => ?_)
  · replace h := (if_neg hb6).symm.trans h
    refine V_iconst (v := (0 : Int32)) eX0_settle_88 rfl ?_
    refine V_iload eX0_settle_89 0 rfl ?_
    refine V_iload_n eX0_settle_91 1 rfl ?_
    refine V_callSi (rest := []) eX0_settle_92 (ctX0_better l G _ (0 : Int32) (q4.1 10) ((((q2 + (500 : Int32)) * (1000 : Int32)) + q3) + (500 : Int32)) rfl) tc_536 tw_534 tw_7 tw_535 hdX0_better rfl ⟨Nat.le_of_ble_eq_true rfl, Nat.le_of_ble_eq_true rfl⟩ rfl (Nat.le_of_ble_eq_true rfl) ⟨Nat.zero_le _, Nat.zero_le _⟩ ?_
    refine jn_elim h (fun j => ∀ (x7 : Int32), j x7 = some z → V l G (tg_Zm G (fun v w1 => v = none ∧ w1 = wC G A z) 0 0) tg_E0 (tg_R 2 45) "TramGod$Duel" "settle" cX0_settle 7 none 104 [(0, .ref (A 21)), (1, .int p1), (3, .int ((((q2 + (500 : Int32)) * (1000 : Int32)) + q3) + (500 : Int32))), (4, .int (q4.1 10))] [.int x7] (wC G A (sF q5 9 (-6 : Int32))) 0 0) ?_ (fun j104 hj104 h => ?_)
    · intro x7 h
      refine V_istore (lv' := [(5, .int x7), (0, .ref (A 21)), (1, .int p1), (3, .int ((((q2 + (500 : Int32)) * (1000 : Int32)) + q3) + (500 : Int32))), (4, .int (q4.1 10))]) eX0_settle_104 (Nat.le_of_ble_eq_true rfl) rfl ?_
      refine V_iconst (v := (1 : Int32)) eX0_settle_106 rfl ?_
      refine V_aload_n eX0_settle_107 1 rfl ?_
      refine V_get (v := .int (q5.1 10)) eX0_settle_108 inX0 21 rfl rfl 7 (Nat.le_of_ble_eq_true rfl) tw_186 rfl ?_
      refine V_iload_n eX0_settle_111 3 rfl ?_
      refine V_callSi (rest := []) eX0_settle_112 (ctX0_better l G _ (1 : Int32) (q5.1 10) ((((q2 + (500 : Int32)) * (1000 : Int32)) + q3) + (500 : Int32)) rfl) tc_536 tw_534 tw_7 tw_535 hdX0_better rfl ⟨Nat.le_of_ble_eq_true rfl, Nat.le_of_ble_eq_true rfl⟩ rfl (Nat.le_of_ble_eq_true rfl) ⟨Nat.zero_le _, Nat.zero_le _⟩ ?_
      refine jn_elim h (fun j => ∀ (x8 : Int32), j x8 = some z → V l G (tg_Zm G (fun v w1 => v = none ∧ w1 = wC G A z) 0 0) tg_E0 (tg_R 2 45) "TramGod$Duel" "settle" cX0_settle 7 none 126 [(0, .ref (A 21)), (1, .int p1), (4, .int (q4.1 10)), (5, .int x7)] [.int x8] (wC G A (sF q5 9 (-6 : Int32))) 0 0) ?_ (fun j126 hj126 h => ?_)
      · intro x8 h
        refine V_istore (lv' := [(6, .int x8), (0, .ref (A 21)), (1, .int p1), (4, .int (q4.1 10)), (5, .int x7)]) eX0_settle_126 (Nat.le_of_ble_eq_true rfl) rfl ?_
        refine V_aload_n eX0_settle_128 1 rfl ?_
        refine V_get (v := .ref (A 23)) eX0_settle_129 inX0 21 rfl rfl 3 (Nat.le_of_ble_eq_true rfl) tw_181 rfl ?_
        refine V_iload_n eX0_settle_132 2 rfl ?_
        refine V_iconst (v := (0 : Int32)) eX0_settle_133 rfl ?_
        refine V_iload eX0_settle_134 3 rfl ?_
        refine V_iload eX0_settle_136 0 rfl ?_
        refine V_callSi (rest := [.int p1, .ref (A 23)]) eX0_settle_138 (ctX0_better l G _ (0 : Int32) (q4.1 10) x8 rfl) tc_536 tw_534 tw_7 tw_535 hdX0_better rfl ⟨Nat.le_of_ble_eq_true rfl, Nat.le_of_ble_eq_true rfl⟩ rfl (Nat.le_of_ble_eq_true rfl) ⟨Nat.zero_le _, Nat.zero_le _⟩ ?_
        refine jn_elim h (fun j => ∀ (x9 : Int32), j x9 = some z → V l G (tg_Zm G (fun v w1 => v = none ∧ w1 = wC G A z) 0 0) tg_E0 (tg_R 2 45) "TramGod$Duel" "settle" cX0_settle 7 none 151 [(0, .ref (A 21)), (1, .int p1), (5, .int x7)] [.int x9, .int p1, .ref (A 23)] (wC G A (sF q5 9 (-6 : Int32))) 0 0) ?_ (fun j151 hj151 h => ?_)
        · intro x9 h
          obtain ⟨hi10, h⟩ := ckb_some h
          refine V_iast (w' := wC G A (sA (sF q5 9 (-6 : Int32)) 16 (p1).toNatClampNeg x9)) eX0_settle_151 23 rfl hi10 rfl ?_
          refine V_aload_n eX0_settle_152 0 rfl ?_
          refine V_get (v := .ref (A 22)) eX0_settle_153 inX0 21 rfl rfl 2 (Nat.le_of_ble_eq_true rfl) tw_180 rfl ?_
          refine V_iload_n eX0_settle_156 1 rfl ?_
          refine V_iload eX0_settle_157 2 rfl ?_
          obtain ⟨hi11, h⟩ := ckb_some h
          refine V_iast (w' := wC G A (sA (sA (sF q5 9 (-6 : Int32)) 16 (p1).toNatClampNeg x9) 15 (p1).toNatClampNeg x7)) eX0_settle_159 22 rfl hi11 rfl ?_
          refine V_iconst (v := (1 : Int32)) eX0_settle_160 rfl ?_
          refine V_aload_n eX0_settle_161 0 rfl ?_
          refine V_get (v := .int (q5.1 10)) eX0_settle_162 inX0 21 rfl rfl 7 (Nat.le_of_ble_eq_true rfl) tw_186 rfl ?_
          refine V_iload eX0_settle_165 2 rfl ?_
          refine V_callSi (rest := []) eX0_settle_167 (ctX0_better l G _ (1 : Int32) (q5.1 10) x7 rfl) tc_536 tw_534 tw_7 tw_535 hdX0_better rfl ⟨Nat.le_of_ble_eq_true rfl, Nat.le_of_ble_eq_true rfl⟩ rfl (Nat.le_of_ble_eq_true rfl) ⟨Nat.zero_le _, Nat.zero_le _⟩ ?_
          refine V_if_eq (tgt := 191) eX0_settle_170 rfl (fun hb12 => ?_) (fun hb12 => ?_)
          · replace h := (if_pos hb12).symm.trans h
            obtain rfl := Option.some.inj h
            exact V_vret eX0_settle_191 rfl ⟨rfl, rfl⟩
          · replace h := (if_neg hb12).symm.trans h
            refine V_aload_n eX0_settle_173 0 rfl ?_
            refine V_get (v := .ref (A 22)) eX0_settle_174 inX0 21 rfl rfl 2 (Nat.le_of_ble_eq_true rfl) tw_180 rfl ?_
            refine V_iload_n eX0_settle_177 1 rfl ?_
            refine V_aload_n eX0_settle_178 0 rfl ?_
            refine V_get (v := .int (q5.1 10)) eX0_settle_179 inX0 21 rfl rfl 7 (Nat.le_of_ble_eq_true rfl) tw_186 rfl ?_
            obtain ⟨hi13, h⟩ := ckb_some h
            refine V_iast (w' := wC G A (sA (sA (sA (sF q5 9 (-6 : Int32)) 16 (p1).toNatClampNeg x9) 15 (p1).toNatClampNeg x7) 15 (p1).toNatClampNeg (q5.1 10))) eX0_settle_182 22 rfl hi13 rfl ?_
            refine V_aload_n eX0_settle_183 0 rfl ?_
            refine V_aload_n eX0_settle_184 0 rfl ?_
            refine V_get (v := .int (q5.1 11)) eX0_settle_185 inX0 21 rfl rfl 8 (Nat.le_of_ble_eq_true rfl) tw_187 rfl ?_
            refine V_put (w' := wC G A (sF (sA (sA (sA (sF q5 9 (-6 : Int32)) 16 (p1).toNatClampNeg x9) 15 (p1).toNatClampNeg x7) 15 (p1).toNatClampNeg (q5.1 10)) 9 (q5.1 11))) eX0_settle_188 inX0 tyX0 tyX0_ok nmX0 21 rfl rfl 6 (Nat.le_of_ble_eq_true rfl) tw_184 rfl rfl rfl rfl (Nat.le_of_ble_eq_true rfl) rfl ?_
            obtain rfl := Option.some.inj h
            exact V_vret eX0_settle_191 rfl ⟨rfl, rfl⟩
        refine V_if_eq (tgt := 149) eX0_settle_141 rfl (fun hb14 => ?_) (fun hb14 => ?_)
        · replace h := (if_pos hb14).symm.trans h
          refine V_iload eX0_settle_149 0 rfl ?_
          refine V_lv (lv' := [(0, .ref (A 21)), (1, .int p1), (5, .int x7)]) [1, 2, 4] rfl ?_
          exact hj151 x8 h
        · replace h := (if_neg hb14).symm.trans h
          refine V_iload eX0_settle_144 3 rfl ?_
          refine V_goto (tgt := 151) eX0_settle_146 rfl ?_
          refine V_lv (lv' := [(0, .ref (A 21)), (1, .int p1), (5, .int x7)]) [1, 2, 4] rfl ?_
          exact hj151 (q4.1 10) h
      refine V_if_eq (tgt := 125) eX0_settle_115 rfl (fun hb15 => ?_) (fun hb15 => ?_)
      · replace h := (if_pos hb15).symm.trans h
        refine V_iload_n eX0_settle_125 3 rfl ?_
        refine V_lv (lv' := [(0, .ref (A 21)), (1, .int p1), (4, .int (q4.1 10)), (5, .int x7)]) [1, 2, 4, 0] rfl ?_
        exact hj126 ((((q2 + (500 : Int32)) * (1000 : Int32)) + q3) + (500 : Int32)) h
      · replace h := (if_neg hb15).symm.trans h
        refine V_aload_n eX0_settle_118 1 rfl ?_
        refine V_get (v := .int (q5.1 10)) eX0_settle_119 inX0 21 rfl rfl 7 (Nat.le_of_ble_eq_true rfl) tw_186 rfl ?_
        refine V_goto (tgt := 126) eX0_settle_122 rfl ?_
        refine V_lv (lv' := [(0, .ref (A 21)), (1, .int p1), (4, .int (q4.1 10)), (5, .int x7)]) [1, 2, 4, 0] rfl ?_
        exact hj126 (q5.1 10) h
    refine V_if_eq (tgt := 103) eX0_settle_95 rfl (fun hb16 => ?_) (fun hb16 => ?_)
    · replace h := (if_pos hb16).symm.trans h
      refine V_iload_n eX0_settle_103 1 rfl ?_
      refine V_lv (lv' := [(0, .ref (A 21)), (1, .int p1), (3, .int ((((q2 + (500 : Int32)) * (1000 : Int32)) + q3) + (500 : Int32))), (4, .int (q4.1 10))]) [3, 4, 1, 0] rfl ?_
      exact hj104 ((((q2 + (500 : Int32)) * (1000 : Int32)) + q3) + (500 : Int32)) h
    · replace h := (if_neg hb16).symm.trans h
      refine V_iload eX0_settle_98 0 rfl ?_
      refine V_goto (tgt := 104) eX0_settle_100 rfl ?_
      refine V_lv (lv' := [(0, .ref (A 21)), (1, .int p1), (3, .int ((((q2 + (500 : Int32)) * (1000 : Int32)) + q3) + (500 : Int32))), (4, .int (q4.1 10))]) [3, 4, 1, 0] rfl ?_
      exact hj104 (q4.1 10) h
  · replace h := (if_pos hb6).symm.trans h
    refine V_aload_n eX0_settle_73 3 rfl ?_
    refine V_get (v := .ref (A 22)) eX0_settle_74 inX0 21 rfl rfl 2 (Nat.le_of_ble_eq_true rfl) tw_180 rfl ?_
    refine V_iload_n eX0_settle_77 4 rfl ?_
    refine V_iload_n eX0_settle_78 1 rfl ?_
    obtain ⟨hi17, h⟩ := ckb_some h
    refine V_iast (w' := wC G A (sA (sF q5 9 (-6 : Int32)) 15 (p1).toNatClampNeg ((((q2 + (500 : Int32)) * (1000 : Int32)) + q3) + (500 : Int32)))) eX0_settle_79 22 rfl hi17 rfl ?_
    refine V_aload_n eX0_settle_80 3 rfl ?_
    refine V_get (v := .ref (A 23)) eX0_settle_81 inX0 21 rfl rfl 3 (Nat.le_of_ble_eq_true rfl) tw_181 rfl ?_
    refine V_iload_n eX0_settle_84 4 rfl ?_
    refine V_iload_n eX0_settle_85 1 rfl ?_
    obtain ⟨hi18, h⟩ := ckb_some h
    refine V_iast (w' := wC G A (sA (sA (sF q5 9 (-6 : Int32)) 15 (p1).toNatClampNeg ((((q2 + (500 : Int32)) * (1000 : Int32)) + q3) + (500 : Int32))) 16 (p1).toNatClampNeg ((((q2 + (500 : Int32)) * (1000 : Int32)) + q3) + (500 : Int32)))) eX0_settle_86 23 rfl hi18 rfl ?_
    obtain rfl := Option.some.inj h
    exact V_vret eX0_settle_87 rfl ⟨rfl, rfl⟩
theorem hdX0_stepDown : yX0_stepDown.cls ≠ "java/lang/invoke/MethodHandle" ∧ yX0_stepDown.cls ≠ "java/lang/invoke/VarHandle" ∧ (parseMethodDescriptor yX0_stepDown.desc).map (fun d => d.parameters.length) = some 0 := by decide +kernel
theorem eX0_stepDown_0 : Dc cX0_stepDown 0 (.iconst 0) 1 1 := ⟨by decide +kernel, rfl⟩
theorem eX0_stepDown_1 : Dc cX0_stepDown 1 (.istore_n 1) 1 2 := ⟨by decide +kernel, rfl⟩
theorem eX0_stepDown_2 : Dc cX0_stepDown 2 (.iload_n 1) 1 3 := ⟨by decide +kernel, rfl⟩
theorem eX0_stepDown_3 : Dc cX0_stepDown 3 (.aload_n 0) 1 4 := ⟨by decide +kernel, rfl⟩
theorem eX0_stepDown_4 : Dc cX0_stepDown 4 (.getfield 24) 3 7 := ⟨by decide +kernel, rfl⟩
theorem eX0_stepDown_7 : Dc cX0_stepDown 7 (.getfield 32) 3 10 := ⟨by decide +kernel, rfl⟩
theorem eX0_stepDown_10 : Dc cX0_stepDown 10 (.if_icmp .ge 48) 3 13 := ⟨by decide +kernel, rfl⟩
theorem eX0_stepDown_13 : Dc cX0_stepDown 13 (.aload_n 0) 1 14 := ⟨by decide +kernel, rfl⟩
theorem eX0_stepDown_14 : Dc cX0_stepDown 14 (.getfield 18) 3 17 := ⟨by decide +kernel, rfl⟩
theorem eX0_stepDown_17 : Dc cX0_stepDown 17 (.iload_n 1) 1 18 := ⟨by decide +kernel, rfl⟩
theorem eX0_stepDown_18 : Dc cX0_stepDown 18 (.iaload) 1 19 := ⟨by decide +kernel, rfl⟩
theorem eX0_stepDown_19 : Dc cX0_stepDown 19 (.ifCond .le 33) 3 22 := ⟨by decide +kernel, rfl⟩
theorem eX0_stepDown_22 : Dc cX0_stepDown 22 (.aload_n 0) 1 23 := ⟨by decide +kernel, rfl⟩
theorem eX0_stepDown_23 : Dc cX0_stepDown 23 (.getfield 18) 3 26 := ⟨by decide +kernel, rfl⟩
theorem eX0_stepDown_26 : Dc cX0_stepDown 26 (.iload_n 1) 1 27 := ⟨by decide +kernel, rfl⟩
theorem eX0_stepDown_27 : Dc cX0_stepDown 27 (.iaload) 1 28 := ⟨by decide +kernel, rfl⟩
theorem eX0_stepDown_28 : Dc cX0_stepDown 28 (.iconst 1) 1 29 := ⟨by decide +kernel, rfl⟩
theorem eX0_stepDown_29 : Dc cX0_stepDown 29 (.isub) 1 30 := ⟨by decide +kernel, rfl⟩
theorem eX0_stepDown_30 : Dc cX0_stepDown 30 (.istore_n 2) 1 31 := ⟨by decide +kernel, rfl⟩
theorem eX0_stepDown_31 : Dc cX0_stepDown 31 (.iconst 0) 1 32 := ⟨by decide +kernel, rfl⟩
theorem eX0_stepDown_32 : Dc cX0_stepDown 32 (.istore_n 3) 1 33 := ⟨by decide +kernel, rfl⟩
theorem eX0_stepDown_33 : Dc cX0_stepDown 33 (.iload_n 3) 1 34 := ⟨by decide +kernel, rfl⟩
theorem eX0_stepDown_34 : Dc cX0_stepDown 34 (.iload_n 1) 1 35 := ⟨by decide +kernel, rfl⟩
theorem eX0_stepDown_35 : Dc cX0_stepDown 35 (.if_icmp .gt 16) 3 38 := ⟨by decide +kernel, rfl⟩
theorem eX0_stepDown_38 : Dc cX0_stepDown 38 (.aload_n 0) 1 39 := ⟨by decide +kernel, rfl⟩
theorem eX0_stepDown_39 : Dc cX0_stepDown 39 (.getfield 18) 3 42 := ⟨by decide +kernel, rfl⟩
theorem eX0_stepDown_42 : Dc cX0_stepDown 42 (.iload_n 3) 1 43 := ⟨by decide +kernel, rfl⟩
theorem eX0_stepDown_43 : Dc cX0_stepDown 43 (.iload_n 2) 1 44 := ⟨by decide +kernel, rfl⟩
theorem eX0_stepDown_44 : Dc cX0_stepDown 44 (.iastore) 1 45 := ⟨by decide +kernel, rfl⟩
theorem eX0_stepDown_45 : Dc cX0_stepDown 45 (.iinc 3 1) 3 48 := ⟨by decide +kernel, rfl⟩
theorem eX0_stepDown_48 : Dc cX0_stepDown 48 (.goto (-15)) 3 51 := ⟨by decide +kernel, rfl⟩
theorem eX0_stepDown_51 : Dc cX0_stepDown 51 (.return_) 1 52 := ⟨by decide +kernel, rfl⟩
theorem eX0_stepDown_52 : Dc cX0_stepDown 52 (.iinc 1 1) 3 55 := ⟨by decide +kernel, rfl⟩
theorem eX0_stepDown_55 : Dc cX0_stepDown 55 (.goto (-53)) 3 58 := ⟨by decide +kernel, rfl⟩
theorem eX0_stepDown_58 : Dc cX0_stepDown 58 (.return_) 1 59 := ⟨by decide +kernel, rfl⟩
def fX0_stepDown_L2 (k : Int32 → Option (SS)) (c : SS)  : Nat → Int32 → Option (SS)
  | 0, _ => none
  | n + 1, a1 => if (c.1 1) ≤ a1 then some c else ald 6 (c.2 17) a1 (fun v2 => if v2 ≤ (0 : Int32) then fX0_stepDown_L2 k c n (a1 + (1 : Int32)) else k a1)
def fX0_stepDown_L33  (a1 : Int32) (a2 : Int32) : Nat → Int32 → SS → Option (SS)
  | 0, _, _ => none
  | n + 1, a3, c => if a1 < a3 then some c else ckb 6 a3 (fX0_stepDown_L33 a1 a2 n (a3 + (1 : Int32)) (sA c 17 (a3).toNatClampNeg a2))
def fX0_stepDown (c : SS)  : Option (SS) := fX0_stepDown_L2 (fun (x4 : Int32) => ald 6 (c.2 17) x4 (fun v5 => fX0_stepDown_L33 x4 (v5 - (1 : Int32)) fu (0 : Int32) c)) c fu (0 : Int32)
set_option maxRecDepth 20000 in
theorem ctX0_stepDown_L2 (l : Launch) (G : tg_G) (A : Nat → Nat) (k : Int32 → Option (SS)) (c : SS)  {z : SS} (hk : ∀ (e1 : Int32), k e1 = some z → V l G (tg_Zm G (fun v w1 => v = none ∧ w1 = wC G A z) 0 0) tg_E0 (tg_R 0 0) "TramGod$Duel" "stepDown" cX0_stepDown 4 none 22 [(0, .ref (A 21)), (1, .int e1)] [] (wC G A c) 0 0) : ∀ (n : Nat) (a1 : Int32), fX0_stepDown_L2 k c n a1 = some z → V l G (tg_Zm G (fun v w1 => v = none ∧ w1 = wC G A z) 0 0) tg_E0 (tg_R 0 0) "TramGod$Duel" "stepDown" cX0_stepDown 4 none 2 [(0, .ref (A 21)), (1, .int a1)] [] (wC G A c) 0 0 := by
  intro n
  induction n with
  | zero => intro a1 h; exact absurd h (by simp [fX0_stepDown_L2])
  | succ n ih =>
    intro a1 h
    unfold fX0_stepDown_L2 at h
    refine V_iload_n eX0_stepDown_2 1 rfl ?_
    refine V_aload_n eX0_stepDown_3 0 rfl ?_
    refine V_get (v := .ref (A 3)) eX0_stepDown_4 inX0 21 rfl rfl 0 (Nat.le_of_ble_eq_true rfl) tw_178 rfl ?_
    refine V_get (v := .int (c.1 1)) eX0_stepDown_7 inX5 3 rfl rfl 0 (Nat.le_of_ble_eq_true rfl) tw_43 rfl ?_
    refine V_icmp_ge (tgt := 58) eX0_stepDown_10 rfl (fun hb1 => ?_) (fun hb1 => ?_)
    · replace h := (if_pos hb1).symm.trans h
      obtain rfl := Option.some.inj h
      exact V_vret eX0_stepDown_58 rfl ⟨rfl, rfl⟩
    · replace h := (if_neg hb1).symm.trans h
      refine V_aload_n eX0_stepDown_13 0 rfl ?_
      refine V_get (v := .ref (A 24)) eX0_stepDown_14 inX0 21 rfl rfl 4 (Nat.le_of_ble_eq_true rfl) tw_182 rfl ?_
      refine V_iload_n eX0_stepDown_17 1 rfl ?_
      obtain ⟨v2, hi2, ev2, h⟩ := ald_some h
      refine V_ialdv eX0_stepDown_18 24 rfl hi2 ev2 ?_
      refine V_if_le (tgt := 52) eX0_stepDown_19 rfl (fun hb3 => ?_) (fun hb3 => ?_)
      · replace h := (if_pos hb3).symm.trans h
        refine V_iinc (v := (a1 + (1 : Int32))) (lv' := [(1, .int (a1 + (1 : Int32))), (0, .ref (A 21))]) eX0_stepDown_52 1 rfl rfl (Nat.le_of_ble_eq_true rfl) rfl ?_
        refine V_goto (tgt := 2) eX0_stepDown_55 rfl ?_
        refine V_lv (lv' := [(0, .ref (A 21)), (1, .int (a1 + (1 : Int32)))]) [1, 0] rfl ?_
        exact ih (a1 + (1 : Int32)) h
      · replace h := (if_neg hb3).symm.trans h
        exact hk a1 h
set_option maxRecDepth 20000 in
theorem ctX0_stepDown_L33 (l : Launch) (G : tg_G) (A : Nat → Nat)  (a1 : Int32) (a2 : Int32) {z : SS}  : ∀ (n : Nat) (a3 : Int32) (c : SS), fX0_stepDown_L33 a1 a2 n a3 c = some z → V l G (tg_Zm G (fun v w1 => v = none ∧ w1 = wC G A z) 0 0) tg_E0 (tg_R 0 0) "TramGod$Duel" "stepDown" cX0_stepDown 4 none 33 [(0, .ref (A 21)), (1, .int a1), (2, .int a2), (3, .int a3)] [] (wC G A c) 0 0 := by
  intro n
  induction n with
  | zero => intro a3 c h; exact absurd h (by simp [fX0_stepDown_L33])
  | succ n ih =>
    intro a3 c h
    unfold fX0_stepDown_L33 at h
    refine V_iload_n eX0_stepDown_33 3 rfl ?_
    refine V_iload_n eX0_stepDown_34 1 rfl ?_
    refine V_icmp_gt (tgt := 51) eX0_stepDown_35 rfl (fun hb6 => ?_) (fun hb6 => ?_)
    · replace h := (if_pos hb6).symm.trans h
      obtain rfl := Option.some.inj h
      exact V_vret eX0_stepDown_51 rfl ⟨rfl, rfl⟩
    · replace h := (if_neg hb6).symm.trans h
      refine V_aload_n eX0_stepDown_38 0 rfl ?_
      refine V_get (v := .ref (A 24)) eX0_stepDown_39 inX0 21 rfl rfl 4 (Nat.le_of_ble_eq_true rfl) tw_182 rfl ?_
      refine V_iload_n eX0_stepDown_42 3 rfl ?_
      refine V_iload_n eX0_stepDown_43 2 rfl ?_
      obtain ⟨hi7, h⟩ := ckb_some h
      refine V_iast (w' := wC G A (sA c 17 (a3).toNatClampNeg a2)) eX0_stepDown_44 24 rfl hi7 rfl ?_
      refine V_iinc (v := (a3 + (1 : Int32))) (lv' := [(3, .int (a3 + (1 : Int32))), (0, .ref (A 21)), (1, .int a1), (2, .int a2)]) eX0_stepDown_45 3 rfl rfl (Nat.le_of_ble_eq_true rfl) rfl ?_
      refine V_goto (tgt := 33) eX0_stepDown_48 rfl ?_
      refine V_lv (lv' := [(0, .ref (A 21)), (1, .int a1), (2, .int a2), (3, .int (a3 + (1 : Int32)))]) [1, 2, 3, 0] rfl ?_
      exact ih (a3 + (1 : Int32)) (sA c 17 (a3).toNatClampNeg a2) h
set_option maxRecDepth 20000 in
theorem ctX0_stepDown (l : Launch) (G : tg_G) (A : Nat → Nat) (c : SS)  {z : SS} (h : fX0_stepDown c  = some z) : Mt l G yX0_stepDown cX0_stepDown 4 none (tg_R 0 0) [.ref (A 21)] (wC G A c) (fun v w1 => v = none ∧ w1 = wC G A z) := by
  refine Mt_of2 (own := "TramGod$Duel") (nm := "stepDown") rfl rfl rfl (Nat.le_of_ble_eq_true rfl) (lv := [(0, .ref (A 21))]) rfl ?_
  unfold fX0_stepDown at h
  refine V_iconst (v := (0 : Int32)) eX0_stepDown_0 rfl ?_
  refine V_istore_n (lv' := [(1, .int (0 : Int32)), (0, .ref (A 21))]) eX0_stepDown_1 (Nat.le_of_ble_eq_true rfl) rfl ?_
  refine V_lv (lv' := [(0, .ref (A 21)), (1, .int (0 : Int32))]) [1, 0] rfl ?_
  refine ctX0_stepDown_L2 l G A _ c ?_ fu (0 : Int32) h
  · intro x4 h
    refine V_aload_n eX0_stepDown_22 0 rfl ?_
    refine V_get (v := .ref (A 24)) eX0_stepDown_23 inX0 21 rfl rfl 4 (Nat.le_of_ble_eq_true rfl) tw_182 rfl ?_
    refine V_iload_n eX0_stepDown_26 1 rfl ?_
    obtain ⟨v5, hi5, ev5, h⟩ := ald_some h
    refine V_ialdv eX0_stepDown_27 24 rfl hi5 ev5 ?_
    refine V_iconst (v := (1 : Int32)) eX0_stepDown_28 rfl ?_
    refine V_isub eX0_stepDown_29 ?_
    refine V_istore_n (lv' := [(2, .int (v5 - (1 : Int32))), (0, .ref (A 21)), (1, .int x4)]) eX0_stepDown_30 (Nat.le_of_ble_eq_true rfl) rfl ?_
    refine V_iconst (v := (0 : Int32)) eX0_stepDown_31 rfl ?_
    refine V_istore_n (lv' := [(3, .int (0 : Int32)), (2, .int (v5 - (1 : Int32))), (0, .ref (A 21)), (1, .int x4)]) eX0_stepDown_32 (Nat.le_of_ble_eq_true rfl) rfl ?_
    refine V_lv (lv' := [(0, .ref (A 21)), (1, .int x4), (2, .int (v5 - (1 : Int32))), (3, .int (0 : Int32))]) [2, 3, 1, 0] rfl ?_
    refine ctX0_stepDown_L33 l G A x4 (v5 - (1 : Int32)) fu (0 : Int32) c h
theorem hdX0_play : yX0_play.cls ≠ "java/lang/invoke/MethodHandle" ∧ yX0_play.cls ≠ "java/lang/invoke/VarHandle" ∧ (parseMethodDescriptor yX0_play.desc).map (fun d => d.parameters.length) = some 0 := by decide +kernel
theorem eX0_play_0 : Dc cX0_play 0 (.iconst 0) 1 1 := ⟨by decide +kernel, rfl⟩
theorem eX0_play_1 : Dc cX0_play 1 (.istore_n 1) 1 2 := ⟨by decide +kernel, rfl⟩
theorem eX0_play_2 : Dc cX0_play 2 (.iload_n 1) 1 3 := ⟨by decide +kernel, rfl⟩
theorem eX0_play_3 : Dc cX0_play 3 (.aload_n 0) 1 4 := ⟨by decide +kernel, rfl⟩
theorem eX0_play_4 : Dc cX0_play 4 (.getfield 24) 3 7 := ⟨by decide +kernel, rfl⟩
theorem eX0_play_7 : Dc cX0_play 7 (.getfield 32) 3 10 := ⟨by decide +kernel, rfl⟩
theorem eX0_play_10 : Dc cX0_play 10 (.if_icmp .ge 22) 3 13 := ⟨by decide +kernel, rfl⟩
theorem eX0_play_13 : Dc cX0_play 13 (.aload_n 0) 1 14 := ⟨by decide +kernel, rfl⟩
theorem eX0_play_14 : Dc cX0_play 14 (.getfield 18) 3 17 := ⟨by decide +kernel, rfl⟩
theorem eX0_play_17 : Dc cX0_play 17 (.iload_n 1) 1 18 := ⟨by decide +kernel, rfl⟩
theorem eX0_play_18 : Dc cX0_play 18 (.aload_n 0) 1 19 := ⟨by decide +kernel, rfl⟩
theorem eX0_play_19 : Dc cX0_play 19 (.getfield 24) 3 22 := ⟨by decide +kernel, rfl⟩
theorem eX0_play_22 : Dc cX0_play 22 (.getfield 38) 3 25 := ⟨by decide +kernel, rfl⟩
theorem eX0_play_25 : Dc cX0_play 25 (.iastore) 1 26 := ⟨by decide +kernel, rfl⟩
theorem eX0_play_26 : Dc cX0_play 26 (.iinc 1 1) 3 29 := ⟨by decide +kernel, rfl⟩
theorem eX0_play_29 : Dc cX0_play 29 (.goto (-27)) 3 32 := ⟨by decide +kernel, rfl⟩
theorem eX0_play_32 : Dc cX0_play 32 (.aload_n 0) 1 33 := ⟨by decide +kernel, rfl⟩
theorem eX0_play_33 : Dc cX0_play 33 (.getfield 24) 3 36 := ⟨by decide +kernel, rfl⟩
theorem eX0_play_36 : Dc cX0_play 36 (.getfield 38) 3 39 := ⟨by decide +kernel, rfl⟩
theorem eX0_play_39 : Dc cX0_play 39 (.aload_n 0) 1 40 := ⟨by decide +kernel, rfl⟩
theorem eX0_play_40 : Dc cX0_play 40 (.getfield 24) 3 43 := ⟨by decide +kernel, rfl⟩
theorem eX0_play_43 : Dc cX0_play 43 (.getfield 32) 3 46 := ⟨by decide +kernel, rfl⟩
theorem eX0_play_46 : Dc cX0_play 46 (.iadd) 1 47 := ⟨by decide +kernel, rfl⟩
theorem eX0_play_47 : Dc cX0_play 47 (.aload_n 0) 1 48 := ⟨by decide +kernel, rfl⟩
theorem eX0_play_48 : Dc cX0_play 48 (.getfield 24) 3 51 := ⟨by decide +kernel, rfl⟩
theorem eX0_play_51 : Dc cX0_play 51 (.getfield 32) 3 54 := ⟨by decide +kernel, rfl⟩
theorem eX0_play_54 : Dc cX0_play 54 (.invokestatic 41) 3 57 := ⟨by decide +kernel, rfl⟩
theorem eX0_play_57 : Dc cX0_play 57 (.sipush 462) 3 60 := ⟨by decide +kernel, rfl⟩
theorem eX0_play_60 : Dc cX0_play 60 (.invokestatic 45) 3 63 := ⟨by decide +kernel, rfl⟩
theorem eX0_play_63 : Dc cX0_play 63 (.istore_n 1) 1 64 := ⟨by decide +kernel, rfl⟩
theorem eX0_play_64 : Dc cX0_play 64 (.iload_n 1) 1 65 := ⟨by decide +kernel, rfl⟩
theorem eX0_play_65 : Dc cX0_play 65 (.iconst 1) 1 66 := ⟨by decide +kernel, rfl⟩
theorem eX0_play_66 : Dc cX0_play 66 (.isub) 1 67 := ⟨by decide +kernel, rfl⟩
theorem eX0_play_67 : Dc cX0_play 67 (.istore_n 2) 1 68 := ⟨by decide +kernel, rfl⟩
theorem eX0_play_68 : Dc cX0_play 68 (.iload_n 2) 1 69 := ⟨by decide +kernel, rfl⟩
theorem eX0_play_69 : Dc cX0_play 69 (.ifCond .lt 23) 3 72 := ⟨by decide +kernel, rfl⟩
theorem eX0_play_72 : Dc cX0_play 72 (.aload_n 0) 1 73 := ⟨by decide +kernel, rfl⟩
theorem eX0_play_73 : Dc cX0_play 73 (.iload_n 2) 1 74 := ⟨by decide +kernel, rfl⟩
theorem eX0_play_74 : Dc cX0_play 74 (.invokevirtual 50) 3 77 := ⟨by decide +kernel, rfl⟩
theorem eX0_play_77 : Dc cX0_play 77 (.aload_n 0) 1 78 := ⟨by decide +kernel, rfl⟩
theorem eX0_play_78 : Dc cX0_play 78 (.iload_n 2) 1 79 := ⟨by decide +kernel, rfl⟩
theorem eX0_play_79 : Dc cX0_play 79 (.invokevirtual 54) 3 82 := ⟨by decide +kernel, rfl⟩
theorem eX0_play_82 : Dc cX0_play 82 (.aload_n 0) 1 83 := ⟨by decide +kernel, rfl⟩
theorem eX0_play_83 : Dc cX0_play 83 (.invokevirtual 57) 3 86 := ⟨by decide +kernel, rfl⟩
theorem eX0_play_86 : Dc cX0_play 86 (.iinc 2 (-1)) 3 89 := ⟨by decide +kernel, rfl⟩
theorem eX0_play_89 : Dc cX0_play 89 (.goto (-21)) 3 92 := ⟨by decide +kernel, rfl⟩
theorem eX0_play_92 : Dc cX0_play 92 (.return_) 1 93 := ⟨by decide +kernel, rfl⟩
def fX0_play_L2 (k : SS → Option (SS))  : Nat → Int32 → SS → Option (SS)
  | 0, _, _ => none
  | n + 1, a1, c => if (c.1 1) ≤ a1 then k c else ckb 6 a1 (fX0_play_L2 k n (a1 + (1 : Int32)) (sA c 17 (a1).toNatClampNeg (c.1 3)))
def fX0_play_L68   : Nat → Int32 → SS → Option (SS)
  | 0, _, _ => none
  | n + 1, a2, c => if a2 < (0 : Int32) then some c else Option.bind (fX0_findNext c a2) (fun q6 => Option.bind (fX0_settle q6 a2) (fun q7 => Option.bind (fX0_stepDown q7) (fun q8 => fX0_play_L68  n (a2 + (-1 : Int32)) q8)))
def fX0_play (c : SS)  : Option (SS) := fX0_play_L2 (fun (c3 : SS) => Option.bind (fX0_ways ((c3.1 3) + (c3.1 1)) (c3.1 1)) (fun q4 => fX0_play_L68  fu ((mmin q4 (462 : Int32)) - (1 : Int32)) c3)) fu (0 : Int32) c
set_option maxRecDepth 20000 in
theorem ctX0_play_L2 (l : Launch) (G : tg_G) (A : Nat → Nat) (k : SS → Option (SS))  {z : SS} (hk : ∀ (ec : SS), k ec = some z → V l G (tg_Zm G (fun v w1 => v = none ∧ w1 = wC G A z) 0 0) tg_E0 (tg_R 3 71) "TramGod$Duel" "play" cX0_play 3 none 32 [(0, .ref (A 21))] [] (wC G A ec) 0 0) : ∀ (n : Nat) (a1 : Int32) (c : SS), fX0_play_L2 k n a1 c = some z → V l G (tg_Zm G (fun v w1 => v = none ∧ w1 = wC G A z) 0 0) tg_E0 (tg_R 3 71) "TramGod$Duel" "play" cX0_play 3 none 2 [(0, .ref (A 21)), (1, .int a1)] [] (wC G A c) 0 0 := by
  intro n
  induction n with
  | zero => intro a1 c h; exact absurd h (by simp [fX0_play_L2])
  | succ n ih =>
    intro a1 c h
    unfold fX0_play_L2 at h
    refine V_iload_n eX0_play_2 1 rfl ?_
    refine V_aload_n eX0_play_3 0 rfl ?_
    refine V_get (v := .ref (A 3)) eX0_play_4 inX0 21 rfl rfl 0 (Nat.le_of_ble_eq_true rfl) tw_178 rfl ?_
    refine V_get (v := .int (c.1 1)) eX0_play_7 inX5 3 rfl rfl 0 (Nat.le_of_ble_eq_true rfl) tw_43 rfl ?_
    refine V_icmp_ge (tgt := 32) eX0_play_10 rfl (fun hb1 => ?_) (fun hb1 => ?_)
    · replace h := (if_pos hb1).symm.trans h
      refine V_lv (lv' := [(0, .ref (A 21))]) [0] rfl ?_
      exact hk c h
    · replace h := (if_neg hb1).symm.trans h
      refine V_aload_n eX0_play_13 0 rfl ?_
      refine V_get (v := .ref (A 24)) eX0_play_14 inX0 21 rfl rfl 4 (Nat.le_of_ble_eq_true rfl) tw_182 rfl ?_
      refine V_iload_n eX0_play_17 1 rfl ?_
      refine V_aload_n eX0_play_18 0 rfl ?_
      refine V_get (v := .ref (A 3)) eX0_play_19 inX0 21 rfl rfl 0 (Nat.le_of_ble_eq_true rfl) tw_178 rfl ?_
      refine V_get (v := .int (c.1 3)) eX0_play_22 inX5 3 rfl rfl 2 (Nat.le_of_ble_eq_true rfl) tw_50 rfl ?_
      obtain ⟨hi2, h⟩ := ckb_some h
      refine V_iast (w' := wC G A (sA c 17 (a1).toNatClampNeg (c.1 3))) eX0_play_25 24 rfl hi2 rfl ?_
      refine V_iinc (v := (a1 + (1 : Int32))) (lv' := [(1, .int (a1 + (1 : Int32))), (0, .ref (A 21))]) eX0_play_26 1 rfl rfl (Nat.le_of_ble_eq_true rfl) rfl ?_
      refine V_goto (tgt := 2) eX0_play_29 rfl ?_
      refine V_lv (lv' := [(0, .ref (A 21)), (1, .int (a1 + (1 : Int32)))]) [1, 0] rfl ?_
      exact ih (a1 + (1 : Int32)) (sA c 17 (a1).toNatClampNeg (c.1 3)) h
set_option maxRecDepth 20000 in
theorem ctX0_play_L68 (l : Launch) (G : tg_G) (A : Nat → Nat)   {z : SS}  : ∀ (n : Nat) (a2 : Int32) (c : SS), fX0_play_L68  n a2 c = some z → V l G (tg_Zm G (fun v w1 => v = none ∧ w1 = wC G A z) 0 0) tg_E0 (tg_R 3 71) "TramGod$Duel" "play" cX0_play 3 none 68 [(0, .ref (A 21)), (2, .int a2)] [] (wC G A c) 0 0 := by
  intro n
  induction n with
  | zero => intro a2 c h; exact absurd h (by simp [fX0_play_L68])
  | succ n ih =>
    intro a2 c h
    unfold fX0_play_L68 at h
    refine V_iload_n eX0_play_68 1 rfl ?_
    refine V_if_lt (tgt := 92) eX0_play_69 rfl (fun hb5 => ?_) (fun hb5 => ?_)
    · replace h := (if_pos hb5).symm.trans h
      obtain rfl := Option.some.inj h
      exact V_vret eX0_play_92 rfl ⟨rfl, rfl⟩
    · replace h := (if_neg hb5).symm.trans h
      refine V_aload_n eX0_play_72 0 rfl ?_
      refine V_iload_n eX0_play_73 1 rfl ?_
      obtain ⟨q6, hc6, h⟩ := Option.bind_eq_some_iff.mp h
      refine V_callVv (rest := []) eX0_play_74 (ctX0_findNext l G A c a2 hc6) tc_521 tw_518 tw_7 tw_520 ts_15 21 rfl rfl hdX0_findNext rfl ⟨Nat.le_of_ble_eq_true rfl, Nat.le_of_ble_eq_true rfl⟩ rfl (Nat.le_of_ble_eq_true rfl) ⟨Nat.zero_le _, Nat.zero_le _⟩ ?_
      refine V_aload_n eX0_play_77 0 rfl ?_
      refine V_iload_n eX0_play_78 1 rfl ?_
      obtain ⟨q7, hc7, h⟩ := Option.bind_eq_some_iff.mp h
      refine V_callVv (rest := []) eX0_play_79 (ctX0_settle l G A q6 a2 hc7) tc_526 tw_523 tw_7 tw_525 ts_16 21 rfl rfl hdX0_settle rfl ⟨Nat.le_of_ble_eq_true rfl, Nat.le_of_ble_eq_true rfl⟩ rfl (Nat.le_of_ble_eq_true rfl) ⟨Nat.zero_le _, Nat.zero_le _⟩ ?_
      refine V_aload_n eX0_play_82 0 rfl ?_
      obtain ⟨q8, hc8, h⟩ := Option.bind_eq_some_iff.mp h
      refine V_callVv (rest := []) eX0_play_83 (ctX0_stepDown l G A q7 hc8) tc_540 tw_537 tw_7 tw_539 ts_18 21 rfl rfl hdX0_stepDown rfl ⟨Nat.le_of_ble_eq_true rfl, Nat.le_of_ble_eq_true rfl⟩ rfl (Nat.le_of_ble_eq_true rfl) ⟨Nat.zero_le _, Nat.zero_le _⟩ ?_
      refine V_iinc (v := (a2 + (-1 : Int32))) (lv' := [(2, .int (a2 + (-1 : Int32))), (0, .ref (A 21))]) eX0_play_86 1 rfl rfl (Nat.le_of_ble_eq_true rfl) rfl ?_
      refine V_goto (tgt := 68) eX0_play_89 rfl ?_
      refine V_lv (lv' := [(0, .ref (A 21)), (2, .int (a2 + (-1 : Int32)))]) [1, 0] rfl ?_
      exact ih (a2 + (-1 : Int32)) q8 h
set_option maxRecDepth 20000 in
theorem ctX0_play (l : Launch) (G : tg_G) (A : Nat → Nat) (c : SS)  {z : SS} (h : fX0_play c  = some z) : Mt l G yX0_play cX0_play 3 none (tg_R 3 71) [.ref (A 21)] (wC G A c) (fun v w1 => v = none ∧ w1 = wC G A z) := by
  refine Mt_of2 (own := "TramGod$Duel") (nm := "play") rfl rfl rfl (Nat.le_of_ble_eq_true rfl) (lv := [(0, .ref (A 21))]) rfl ?_
  unfold fX0_play at h
  refine V_iconst (v := (0 : Int32)) eX0_play_0 rfl ?_
  refine V_istore_n (lv' := [(1, .int (0 : Int32)), (0, .ref (A 21))]) eX0_play_1 (Nat.le_of_ble_eq_true rfl) rfl ?_
  refine V_lv (lv' := [(0, .ref (A 21)), (1, .int (0 : Int32))]) [1, 0] rfl ?_
  refine ctX0_play_L2 l G A _ ?_ fu (0 : Int32) c h
  · intro c3 h
    refine V_aload_n eX0_play_32 0 rfl ?_
    refine V_get (v := .ref (A 3)) eX0_play_33 inX0 21 rfl rfl 0 (Nat.le_of_ble_eq_true rfl) tw_178 rfl ?_
    refine V_get (v := .int (c3.1 3)) eX0_play_36 inX5 3 rfl rfl 2 (Nat.le_of_ble_eq_true rfl) tw_50 rfl ?_
    refine V_aload_n eX0_play_39 0 rfl ?_
    refine V_get (v := .ref (A 3)) eX0_play_40 inX0 21 rfl rfl 0 (Nat.le_of_ble_eq_true rfl) tw_178 rfl ?_
    refine V_get (v := .int (c3.1 1)) eX0_play_43 inX5 3 rfl rfl 0 (Nat.le_of_ble_eq_true rfl) tw_43 rfl ?_
    refine V_iadd eX0_play_46 ?_
    refine V_aload_n eX0_play_47 0 rfl ?_
    refine V_get (v := .ref (A 3)) eX0_play_48 inX0 21 rfl rfl 0 (Nat.le_of_ble_eq_true rfl) tw_178 rfl ?_
    refine V_get (v := .int (c3.1 1)) eX0_play_51 inX5 3 rfl rfl 0 (Nat.le_of_ble_eq_true rfl) tw_43 rfl ?_
    obtain ⟨q4, hc4, h⟩ := Option.bind_eq_some_iff.mp h
    refine V_callSi (rest := []) eX0_play_54 (ctX0_ways l G _ ((c3.1 3) + (c3.1 1)) (c3.1 1) hc4) tc_513 tw_511 tw_7 tw_512 hdX0_ways rfl ⟨Nat.le_of_ble_eq_true rfl, Nat.le_of_ble_eq_true rfl⟩ rfl (Nat.le_of_ble_eq_true rfl) ⟨Nat.zero_le _, Nat.zero_le _⟩ ?_
    refine V_sipush (v := (462 : Int32)) eX0_play_57 rfl ?_
    refine V_mmin (rest := []) eX0_play_60 tw_517 tw_272 tw_9 tc_273 (Nat.le_of_ble_eq_true rfl) (Nat.le_of_ble_eq_true rfl) ⟨Nat.zero_le _, Nat.zero_le _⟩ ?_
    refine V_istore_n (lv' := [(1, .int (mmin q4 (462 : Int32))), (0, .ref (A 21))]) eX0_play_63 (Nat.le_of_ble_eq_true rfl) rfl ?_
    refine V_iload_n eX0_play_64 0 rfl ?_
    refine V_iconst (v := (1 : Int32)) eX0_play_65 rfl ?_
    refine V_isub eX0_play_66 ?_
    refine V_istore_n (lv' := [(2, .int ((mmin q4 (462 : Int32)) - (1 : Int32))), (1, .int (mmin q4 (462 : Int32))), (0, .ref (A 21))]) eX0_play_67 (Nat.le_of_ble_eq_true rfl) rfl ?_
    refine V_lv (lv' := [(0, .ref (A 21)), (2, .int ((mmin q4 (462 : Int32)) - (1 : Int32)))]) [2, 0] rfl ?_
    refine ctX0_play_L68 l G A fu ((mmin q4 (462 : Int32)) - (1 : Int32)) c3 h
theorem hdX0_rivalHas : yX0_rivalHas.cls ≠ "java/lang/invoke/MethodHandle" ∧ yX0_rivalHas.cls ≠ "java/lang/invoke/VarHandle" ∧ (parseMethodDescriptor yX0_rivalHas.desc).map (fun d => d.parameters.length) = some 0 := by decide +kernel
theorem eX0_rivalHas_0 : Dc cX0_rivalHas 0 (.aload_n 0) 1 1 := ⟨by decide +kernel, rfl⟩
theorem eX0_rivalHas_1 : Dc cX0_rivalHas 1 (.getfield 9) 3 4 := ⟨by decide +kernel, rfl⟩
theorem eX0_rivalHas_4 : Dc cX0_rivalHas 4 (.iconst 0) 1 5 := ⟨by decide +kernel, rfl⟩
theorem eX0_rivalHas_5 : Dc cX0_rivalHas 5 (.iaload) 1 6 := ⟨by decide +kernel, rfl⟩
theorem eX0_rivalHas_6 : Dc cX0_rivalHas 6 (.sipush 1000) 3 9 := ⟨by decide +kernel, rfl⟩
theorem eX0_rivalHas_9 : Dc cX0_rivalHas 9 (.irem) 1 10 := ⟨by decide +kernel, rfl⟩
theorem eX0_rivalHas_10 : Dc cX0_rivalHas 10 (.sipush 500) 3 13 := ⟨by decide +kernel, rfl⟩
theorem eX0_rivalHas_13 : Dc cX0_rivalHas 13 (.isub) 1 14 := ⟨by decide +kernel, rfl⟩
theorem eX0_rivalHas_14 : Dc cX0_rivalHas 14 (.ireturn) 1 15 := ⟨by decide +kernel, rfl⟩
def fX0_rivalHas (c : SS)  : Option (Int32) := ald 462 (c.2 15) (0 : Int32) (fun v1 => some ((irm v1 (1000 : Int32)) - (500 : Int32)))
set_option maxRecDepth 20000 in
theorem ctX0_rivalHas (l : Launch) (G : tg_G) (A : Nat → Nat) (c : SS)  {z : Int32} (h : fX0_rivalHas c  = some z) : Mt l G yX0_rivalHas cX0_rivalHas 1 (some .int) (tg_R 0 0) [.ref (A 21)] (wC G A c) (fun v w1 => v = some (.int z) ∧ w1 = wC G A c) := by
  refine Mt_of2 (own := "TramGod$Duel") (nm := "rivalHas") rfl rfl rfl (Nat.le_of_ble_eq_true rfl) (lv := [(0, .ref (A 21))]) rfl ?_
  unfold fX0_rivalHas at h
  refine V_aload_n eX0_rivalHas_0 0 rfl ?_
  refine V_get (v := .ref (A 22)) eX0_rivalHas_1 inX0 21 rfl rfl 2 (Nat.le_of_ble_eq_true rfl) tw_180 rfl ?_
  refine V_iconst (v := (0 : Int32)) eX0_rivalHas_4 rfl ?_
  obtain ⟨v1, hi1, ev1, h⟩ := ald_some h
  refine V_ialdv eX0_rivalHas_5 22 rfl hi1 ev1 ?_
  refine V_sipush (v := (1000 : Int32)) eX0_rivalHas_6 rfl ?_
  refine V_irem eX0_rivalHas_9 (by decide) ?_
  refine V_sipush (v := (500 : Int32)) eX0_rivalHas_10 rfl ?_
  refine V_isub eX0_rivalHas_13 ?_
  obtain rfl := Option.some.inj h
  exact V_ret eX0_rivalHas_14 rfl ⟨rfl, rfl⟩
theorem hdX0_godHas : yX0_godHas.cls ≠ "java/lang/invoke/MethodHandle" ∧ yX0_godHas.cls ≠ "java/lang/invoke/VarHandle" ∧ (parseMethodDescriptor yX0_godHas.desc).map (fun d => d.parameters.length) = some 0 := by decide +kernel
theorem eX0_godHas_0 : Dc cX0_godHas 0 (.aload_n 0) 1 1 := ⟨by decide +kernel, rfl⟩
theorem eX0_godHas_1 : Dc cX0_godHas 1 (.getfield 9) 3 4 := ⟨by decide +kernel, rfl⟩
theorem eX0_godHas_4 : Dc cX0_godHas 4 (.iconst 0) 1 5 := ⟨by decide +kernel, rfl⟩
theorem eX0_godHas_5 : Dc cX0_godHas 5 (.iaload) 1 6 := ⟨by decide +kernel, rfl⟩
theorem eX0_godHas_6 : Dc cX0_godHas 6 (.sipush 1000) 3 9 := ⟨by decide +kernel, rfl⟩
theorem eX0_godHas_9 : Dc cX0_godHas 9 (.idiv) 1 10 := ⟨by decide +kernel, rfl⟩
theorem eX0_godHas_10 : Dc cX0_godHas 10 (.sipush 500) 3 13 := ⟨by decide +kernel, rfl⟩
theorem eX0_godHas_13 : Dc cX0_godHas 13 (.isub) 1 14 := ⟨by decide +kernel, rfl⟩
theorem eX0_godHas_14 : Dc cX0_godHas 14 (.ireturn) 1 15 := ⟨by decide +kernel, rfl⟩
def fX0_godHas (c : SS)  : Option (Int32) := ald 462 (c.2 15) (0 : Int32) (fun v1 => some ((v1 / (1000 : Int32)) - (500 : Int32)))
set_option maxRecDepth 20000 in
theorem ctX0_godHas (l : Launch) (G : tg_G) (A : Nat → Nat) (c : SS)  {z : Int32} (h : fX0_godHas c  = some z) : Mt l G yX0_godHas cX0_godHas 1 (some .int) (tg_R 0 0) [.ref (A 21)] (wC G A c) (fun v w1 => v = some (.int z) ∧ w1 = wC G A c) := by
  refine Mt_of2 (own := "TramGod$Duel") (nm := "godHas") rfl rfl rfl (Nat.le_of_ble_eq_true rfl) (lv := [(0, .ref (A 21))]) rfl ?_
  unfold fX0_godHas at h
  refine V_aload_n eX0_godHas_0 0 rfl ?_
  refine V_get (v := .ref (A 22)) eX0_godHas_1 inX0 21 rfl rfl 2 (Nat.le_of_ble_eq_true rfl) tw_180 rfl ?_
  refine V_iconst (v := (0 : Int32)) eX0_godHas_4 rfl ?_
  obtain ⟨v1, hi1, ev1, h⟩ := ald_some h
  refine V_ialdv eX0_godHas_5 22 rfl hi1 ev1 ?_
  refine V_sipush (v := (1000 : Int32)) eX0_godHas_6 rfl ?_
  refine V_idiv eX0_godHas_9 (by decide) ?_
  refine V_sipush (v := (500 : Int32)) eX0_godHas_10 rfl ?_
  refine V_isub eX0_godHas_13 ?_
  obtain rfl := Option.some.inj h
  exact V_ret eX0_godHas_14 rfl ⟨rfl, rfl⟩
theorem hdX6_rival : yX6_rival.cls ≠ "java/lang/invoke/MethodHandle" ∧ yX6_rival.cls ≠ "java/lang/invoke/VarHandle" ∧ (parseMethodDescriptor yX6_rival.desc).map (fun d => d.parameters.length) = some 1 := by decide +kernel
theorem eX6_rival_0 : Dc cX6_rival 0 (.iload_n 1) 1 1 := ⟨by decide +kernel, rfl⟩
theorem eX6_rival_1 : Dc cX6_rival 1 (.iconst 0) 1 2 := ⟨by decide +kernel, rfl⟩
theorem eX6_rival_2 : Dc cX6_rival 2 (.iconst 2) 1 3 := ⟨by decide +kernel, rfl⟩
theorem eX6_rival_3 : Dc cX6_rival 3 (.invokestatic 68) 3 6 := ⟨by decide +kernel, rfl⟩
theorem eX6_rival_6 : Dc cX6_rival 6 (.ifCond .ne 6) 3 9 := ⟨by decide +kernel, rfl⟩
theorem eX6_rival_9 : Dc cX6_rival 9 (.bipush (-2)) 2 11 := ⟨by decide +kernel, rfl⟩
theorem eX6_rival_11 : Dc cX6_rival 11 (.ireturn) 1 12 := ⟨by decide +kernel, rfl⟩
theorem eX6_rival_12 : Dc cX6_rival 12 (.aload_n 0) 1 13 := ⟨by decide +kernel, rfl⟩
theorem eX6_rival_13 : Dc cX6_rival 13 (.getfield 19) 3 16 := ⟨by decide +kernel, rfl⟩
theorem eX6_rival_16 : Dc cX6_rival 16 (.getfield 130) 3 19 := ⟨by decide +kernel, rfl⟩
theorem eX6_rival_19 : Dc cX6_rival 19 (.iconst 5) 1 20 := ⟨by decide +kernel, rfl⟩
theorem eX6_rival_20 : Dc cX6_rival 20 (.if_icmp .le 6) 3 23 := ⟨by decide +kernel, rfl⟩
theorem eX6_rival_23 : Dc cX6_rival 23 (.bipush (-4)) 2 25 := ⟨by decide +kernel, rfl⟩
theorem eX6_rival_25 : Dc cX6_rival 25 (.ireturn) 1 26 := ⟨by decide +kernel, rfl⟩
theorem eX6_rival_26 : Dc cX6_rival 26 (.aload_n 0) 1 27 := ⟨by decide +kernel, rfl⟩
theorem eX6_rival_27 : Dc cX6_rival 27 (.getfield 32) 3 30 := ⟨by decide +kernel, rfl⟩
theorem eX6_rival_30 : Dc cX6_rival 30 (.aload_n 0) 1 31 := ⟨by decide +kernel, rfl⟩
theorem eX6_rival_31 : Dc cX6_rival 31 (.getfield 19) 3 34 := ⟨by decide +kernel, rfl⟩
theorem eX6_rival_34 : Dc cX6_rival 34 (.getfield 94) 3 37 := ⟨by decide +kernel, rfl⟩
theorem eX6_rival_37 : Dc cX6_rival 37 (.invokevirtual 182) 3 40 := ⟨by decide +kernel, rfl⟩
theorem eX6_rival_40 : Dc cX6_rival 40 (.aload_n 0) 1 41 := ⟨by decide +kernel, rfl⟩
theorem eX6_rival_41 : Dc cX6_rival 41 (.getfield 57) 3 44 := ⟨by decide +kernel, rfl⟩
theorem eX6_rival_44 : Dc cX6_rival 44 (.invokevirtual 192) 3 47 := ⟨by decide +kernel, rfl⟩
theorem eX6_rival_47 : Dc cX6_rival 47 (.iload_n 1) 1 48 := ⟨by decide +kernel, rfl⟩
theorem eX6_rival_48 : Dc cX6_rival 48 (.iconst 2) 1 49 := ⟨by decide +kernel, rfl⟩
theorem eX6_rival_49 : Dc cX6_rival 49 (.if_icmp .ne 11) 3 52 := ⟨by decide +kernel, rfl⟩
theorem eX6_rival_52 : Dc cX6_rival 52 (.aload_n 0) 1 53 := ⟨by decide +kernel, rfl⟩
theorem eX6_rival_53 : Dc cX6_rival 53 (.getfield 57) 3 56 := ⟨by decide +kernel, rfl⟩
theorem eX6_rival_56 : Dc cX6_rival 56 (.getfield 195) 3 59 := ⟨by decide +kernel, rfl⟩
theorem eX6_rival_59 : Dc cX6_rival 59 (.ireturn) 1 60 := ⟨by decide +kernel, rfl⟩
theorem eX6_rival_60 : Dc cX6_rival 60 (.sipush 1000) 3 63 := ⟨by decide +kernel, rfl⟩
theorem eX6_rival_63 : Dc cX6_rival 63 (.iload_n 1) 1 64 := ⟨by decide +kernel, rfl⟩
theorem eX6_rival_64 : Dc cX6_rival 64 (.ifCond .ne 13) 3 67 := ⟨by decide +kernel, rfl⟩
theorem eX6_rival_67 : Dc cX6_rival 67 (.aload_n 0) 1 68 := ⟨by decide +kernel, rfl⟩
theorem eX6_rival_68 : Dc cX6_rival 68 (.getfield 57) 3 71 := ⟨by decide +kernel, rfl⟩
theorem eX6_rival_71 : Dc cX6_rival 71 (.invokevirtual 198) 3 74 := ⟨by decide +kernel, rfl⟩
theorem eX6_rival_74 : Dc cX6_rival 74 (.goto 10) 3 77 := ⟨by decide +kernel, rfl⟩
theorem eX6_rival_77 : Dc cX6_rival 77 (.aload_n 0) 1 78 := ⟨by decide +kernel, rfl⟩
theorem eX6_rival_78 : Dc cX6_rival 78 (.getfield 57) 3 81 := ⟨by decide +kernel, rfl⟩
theorem eX6_rival_81 : Dc cX6_rival 81 (.invokevirtual 201) 3 84 := ⟨by decide +kernel, rfl⟩
theorem eX6_rival_84 : Dc cX6_rival 84 (.iadd) 1 85 := ⟨by decide +kernel, rfl⟩
theorem eX6_rival_85 : Dc cX6_rival 85 (.ireturn) 1 86 := ⟨by decide +kernel, rfl⟩
def fX6_rival (c : SS) (p1 : Int32) : Option (Int32 × SS) := if (fX6_within p1 (0 : Int32) (2 : Int32)) = (0 : Int32) then some ((-2 : Int32), c) else if (c.1 3) ≤ (5 : Int32) then Option.bind (fX4_measure c (c.1 2)) (fun q3 => Option.bind (fX0_play q3) (fun q4 => if p1 = (2 : Int32) then some ((q4.1 9), q4) else jn (fun (x6 : Int32) => some (((1000 : Int32) + x6), q4)) (fun j84 => if p1 = (0 : Int32) then Option.bind (fX0_godHas q4) (fun q9 => j84 q9) else Option.bind (fX0_rivalHas q4) (fun q8 => j84 q8)))) else some ((-4 : Int32), c)
set_option maxRecDepth 20000 in
theorem ctX6_rival (l : Launch) (G : tg_G) (A : Nat → Nat) (c : SS) (p1 : Int32) {z : Int32 × SS} (h : fX6_rival c p1 = some z) : Mt l G yX6_rival cX6_rival 2 (some .int) (tg_R 4 93) [.ref (A 0), .int p1] (wC G A c) (fun v w1 => v = some (.int z.1) ∧ w1 = wC G A z.2) := by
  refine Mt_of2 (own := "TramGod") (nm := "rival") rfl rfl rfl (Nat.le_of_ble_eq_true rfl) (lv := [(0, .ref (A 0)), (1, .int p1)]) rfl ?_
  unfold fX6_rival at h
  refine V_iload_n eX6_rival_0 1 rfl ?_
  refine V_iconst (v := (0 : Int32)) eX6_rival_1 rfl ?_
  refine V_iconst (v := (2 : Int32)) eX6_rival_2 rfl ?_
  refine V_callSi (rest := []) eX6_rival_3 (ctX6_within l G _ p1 (0 : Int32) (2 : Int32) rfl) tc_241 tw_239 tw_1 tw_240 hdX6_within rfl ⟨Nat.le_of_ble_eq_true rfl, Nat.le_of_ble_eq_true rfl⟩ rfl (Nat.le_of_ble_eq_true rfl) ⟨Nat.zero_le _, Nat.zero_le _⟩ ?_
  refine V_if_ne (tgt := 12) eX6_rival_6 rfl (fun hb1 => ?_) (fun hb1 => ?_)
  · replace h := (if_neg hb1).symm.trans h
    refine V_aload_n eX6_rival_12 0 rfl ?_
    refine V_get (v := .ref (A 3)) eX6_rival_13 inX6 0 rfl rfl 1 (Nat.le_of_ble_eq_true rfl) tw_208 rfl ?_
    refine V_get (v := .int (c.1 3)) eX6_rival_16 inX5 3 rfl rfl 2 (Nat.le_of_ble_eq_true rfl) tw_51 rfl ?_
    refine V_iconst (v := (5 : Int32)) eX6_rival_19 rfl ?_
    refine V_icmp_le (tgt := 26) eX6_rival_20 rfl (fun hb2 => ?_) (fun hb2 => ?_)
    · replace h := (if_pos hb2).symm.trans h
      refine V_aload_n eX6_rival_26 0 rfl ?_
      refine V_get (v := .ref (A 11)) eX6_rival_27 inX6 0 rfl rfl 3 (Nat.le_of_ble_eq_true rfl) tw_210 rfl ?_
      refine V_aload_n eX6_rival_30 0 rfl ?_
      refine V_get (v := .ref (A 3)) eX6_rival_31 inX6 0 rfl rfl 1 (Nat.le_of_ble_eq_true rfl) tw_208 rfl ?_
      refine V_get (v := .int (c.1 2)) eX6_rival_34 inX5 3 rfl rfl 1 (Nat.le_of_ble_eq_true rfl) tw_47 rfl ?_
      obtain ⟨q3, hc3, h⟩ := Option.bind_eq_some_iff.mp h
      refine V_callVv (rest := []) eX6_rival_37 (ctX4_measure l G A c (c.1 2) hc3) tc_352 tw_349 tw_4 tw_350 tw_351 11 rfl rfl hdX4_measure rfl ⟨Nat.le_of_ble_eq_true rfl, Nat.le_of_ble_eq_true rfl⟩ rfl (Nat.le_of_ble_eq_true rfl) ⟨Nat.zero_le _, Nat.zero_le _⟩ ?_
      refine V_aload_n eX6_rival_40 0 rfl ?_
      refine V_get (v := .ref (A 21)) eX6_rival_41 inX6 0 rfl rfl 6 (Nat.le_of_ble_eq_true rfl) tw_213 rfl ?_
      obtain ⟨q4, hc4, h⟩ := Option.bind_eq_some_iff.mp h
      refine V_callVv (rest := []) eX6_rival_44 (ctX0_play l G A q3 hc4) tc_510 tw_507 tw_7 tw_508 tw_509 21 rfl rfl hdX0_play rfl ⟨Nat.le_of_ble_eq_true rfl, Nat.le_of_ble_eq_true rfl⟩ rfl (Nat.le_of_ble_eq_true rfl) ⟨Nat.zero_le _, Nat.zero_le _⟩ ?_
      refine V_iload_n eX6_rival_47 1 rfl ?_
      refine V_iconst (v := (2 : Int32)) eX6_rival_48 rfl ?_
      refine V_icmp_ne (tgt := 60) eX6_rival_49 rfl (fun hb5 => ?_) (fun hb5 => ?_)
      · replace h := (if_neg hb5).symm.trans h
        refine V_sipush (v := (1000 : Int32)) eX6_rival_60 rfl ?_
        refine V_iload_n eX6_rival_63 1 rfl ?_
        refine jn_elim h (fun j => ∀ (x6 : Int32), j x6 = some z → V l G (tg_Zm G (fun v w1 => v = some (.int z.1) ∧ w1 = wC G A z.2) 0 0) tg_E0 (tg_R 4 93) "TramGod" "rival" cX6_rival 2 (some .int) 84 [] [.int x6, .int (1000 : Int32)] (wC G A q4) 0 0) ?_ (fun j84 hj84 h => ?_)
        · intro x6 h
          refine V_iadd eX6_rival_84 ?_
          obtain rfl := Option.some.inj h
          exact V_ret eX6_rival_85 rfl ⟨rfl, rfl⟩
        refine V_if_ne (tgt := 77) eX6_rival_64 rfl (fun hb7 => ?_) (fun hb7 => ?_)
        · replace h := (if_neg hb7).symm.trans h
          refine V_aload_n eX6_rival_77 0 rfl ?_
          refine V_get (v := .ref (A 21)) eX6_rival_78 inX6 0 rfl rfl 6 (Nat.le_of_ble_eq_true rfl) tw_213 rfl ?_
          obtain ⟨q8, hc8, h⟩ := Option.bind_eq_some_iff.mp h
          refine V_callVi (rest := [.int (1000 : Int32)]) eX6_rival_81 (ctX0_rivalHas l G A q4 hc8) tc_548 tw_545 tw_7 tw_546 tw_547 21 rfl rfl hdX0_rivalHas rfl ⟨Nat.le_of_ble_eq_true rfl, Nat.le_of_ble_eq_true rfl⟩ rfl (Nat.le_of_ble_eq_true rfl) ⟨Nat.zero_le _, Nat.zero_le _⟩ ?_
          refine V_lv (lv' := []) [] rfl ?_
          exact hj84 q8 h
        · replace h := (if_pos hb7).symm.trans h
          refine V_aload_n eX6_rival_67 0 rfl ?_
          refine V_get (v := .ref (A 21)) eX6_rival_68 inX6 0 rfl rfl 6 (Nat.le_of_ble_eq_true rfl) tw_213 rfl ?_
          obtain ⟨q9, hc9, h⟩ := Option.bind_eq_some_iff.mp h
          refine V_callVi (rest := [.int (1000 : Int32)]) eX6_rival_71 (ctX0_godHas l G A q4 hc9) tc_544 tw_541 tw_7 tw_542 tw_543 21 rfl rfl hdX0_godHas rfl ⟨Nat.le_of_ble_eq_true rfl, Nat.le_of_ble_eq_true rfl⟩ rfl (Nat.le_of_ble_eq_true rfl) ⟨Nat.zero_le _, Nat.zero_le _⟩ ?_
          refine V_goto (tgt := 84) eX6_rival_74 rfl ?_
          refine V_lv (lv' := []) [] rfl ?_
          exact hj84 q9 h
      · replace h := (if_pos hb5).symm.trans h
        refine V_aload_n eX6_rival_52 0 rfl ?_
        refine V_get (v := .ref (A 21)) eX6_rival_53 inX6 0 rfl rfl 6 (Nat.le_of_ble_eq_true rfl) tw_213 rfl ?_
        refine V_get (v := .int (q4.1 9)) eX6_rival_56 inX0 21 rfl rfl 6 (Nat.le_of_ble_eq_true rfl) tw_185 rfl ?_
        obtain rfl := Option.some.inj h
        exact V_ret eX6_rival_59 rfl ⟨rfl, rfl⟩
    · replace h := (if_neg hb2).symm.trans h
      refine V_bipush (v := (-4 : Int32)) eX6_rival_23 rfl ?_
      obtain rfl := Option.some.inj h
      exact V_ret eX6_rival_25 rfl ⟨rfl, rfl⟩
  · replace h := (if_pos hb1).symm.trans h
    refine V_bipush (v := (-2 : Int32)) eX6_rival_9 rfl ?_
    obtain rfl := Option.some.inj h
    exact V_ret eX6_rival_11 rfl ⟨rfl, rfl⟩
theorem hdX6_clearDelays : yX6_clearDelays.cls ≠ "java/lang/invoke/MethodHandle" ∧ yX6_clearDelays.cls ≠ "java/lang/invoke/VarHandle" ∧ (parseMethodDescriptor yX6_clearDelays.desc).map (fun d => d.parameters.length) = some 0 := by decide +kernel
theorem eX6_clearDelays_0 : Dc cX6_clearDelays 0 (.iconst 0) 1 1 := ⟨by decide +kernel, rfl⟩
theorem eX6_clearDelays_1 : Dc cX6_clearDelays 1 (.istore_n 1) 1 2 := ⟨by decide +kernel, rfl⟩
theorem eX6_clearDelays_2 : Dc cX6_clearDelays 2 (.iload_n 1) 1 3 := ⟨by decide +kernel, rfl⟩
theorem eX6_clearDelays_3 : Dc cX6_clearDelays 3 (.bipush 6) 2 5 := ⟨by decide +kernel, rfl⟩
theorem eX6_clearDelays_5 : Dc cX6_clearDelays 5 (.if_icmp .ge 16) 3 8 := ⟨by decide +kernel, rfl⟩
theorem eX6_clearDelays_8 : Dc cX6_clearDelays 8 (.aload_n 0) 1 9 := ⟨by decide +kernel, rfl⟩
theorem eX6_clearDelays_9 : Dc cX6_clearDelays 9 (.getfield 65) 3 12 := ⟨by decide +kernel, rfl⟩
theorem eX6_clearDelays_12 : Dc cX6_clearDelays 12 (.iload_n 1) 1 13 := ⟨by decide +kernel, rfl⟩
theorem eX6_clearDelays_13 : Dc cX6_clearDelays 13 (.iconst 0) 1 14 := ⟨by decide +kernel, rfl⟩
theorem eX6_clearDelays_14 : Dc cX6_clearDelays 14 (.iastore) 1 15 := ⟨by decide +kernel, rfl⟩
theorem eX6_clearDelays_15 : Dc cX6_clearDelays 15 (.iinc 1 1) 3 18 := ⟨by decide +kernel, rfl⟩
theorem eX6_clearDelays_18 : Dc cX6_clearDelays 18 (.goto (-16)) 3 21 := ⟨by decide +kernel, rfl⟩
theorem eX6_clearDelays_21 : Dc cX6_clearDelays 21 (.return_) 1 22 := ⟨by decide +kernel, rfl⟩
def fX6_clearDelays_L2   : Nat → Int32 → SS → Option (SS)
  | 0, _, _ => none
  | n + 1, a1, c => if (6 : Int32) ≤ a1 then some c else ckb 6 a1 (fX6_clearDelays_L2  n (a1 + (1 : Int32)) (sA c 20 (a1).toNatClampNeg (0 : Int32)))
def fX6_clearDelays (c : SS)  : Option (SS) := fX6_clearDelays_L2  fu (0 : Int32) c
set_option maxRecDepth 20000 in
theorem ctX6_clearDelays_L2 (l : Launch) (G : tg_G) (A : Nat → Nat)   {z : SS}  : ∀ (n : Nat) (a1 : Int32) (c : SS), fX6_clearDelays_L2  n a1 c = some z → V l G (tg_Zm G (fun v w1 => v = none ∧ w1 = wC G A z) 0 0) tg_E0 (tg_R 0 0) "TramGod" "clearDelays" cX6_clearDelays 2 none 2 [(0, .ref (A 0)), (1, .int a1)] [] (wC G A c) 0 0 := by
  intro n
  induction n with
  | zero => intro a1 c h; exact absurd h (by simp [fX6_clearDelays_L2])
  | succ n ih =>
    intro a1 c h
    unfold fX6_clearDelays_L2 at h
    refine V_iload_n eX6_clearDelays_2 1 rfl ?_
    refine V_bipush (v := (6 : Int32)) eX6_clearDelays_3 rfl ?_
    refine V_icmp_ge (tgt := 21) eX6_clearDelays_5 rfl (fun hb1 => ?_) (fun hb1 => ?_)
    · replace h := (if_pos hb1).symm.trans h
      obtain rfl := Option.some.inj h
      exact V_vret eX6_clearDelays_21 rfl ⟨rfl, rfl⟩
    · replace h := (if_neg hb1).symm.trans h
      refine V_aload_n eX6_clearDelays_8 0 rfl ?_
      refine V_get (v := .ref (A 27)) eX6_clearDelays_9 inX6 0 rfl rfl 8 (Nat.le_of_ble_eq_true rfl) tw_215 rfl ?_
      refine V_iload_n eX6_clearDelays_12 1 rfl ?_
      refine V_iconst (v := (0 : Int32)) eX6_clearDelays_13 rfl ?_
      obtain ⟨hi2, h⟩ := ckb_some h
      refine V_iast (w' := wC G A (sA c 20 (a1).toNatClampNeg (0 : Int32))) eX6_clearDelays_14 27 rfl hi2 rfl ?_
      refine V_iinc (v := (a1 + (1 : Int32))) (lv' := [(1, .int (a1 + (1 : Int32))), (0, .ref (A 0))]) eX6_clearDelays_15 1 rfl rfl (Nat.le_of_ble_eq_true rfl) rfl ?_
      refine V_goto (tgt := 2) eX6_clearDelays_18 rfl ?_
      refine V_lv (lv' := [(0, .ref (A 0)), (1, .int (a1 + (1 : Int32)))]) [1, 0] rfl ?_
      exact ih (a1 + (1 : Int32)) (sA c 20 (a1).toNatClampNeg (0 : Int32)) h
set_option maxRecDepth 20000 in
theorem ctX6_clearDelays (l : Launch) (G : tg_G) (A : Nat → Nat) (c : SS)  {z : SS} (h : fX6_clearDelays c  = some z) : Mt l G yX6_clearDelays cX6_clearDelays 2 none (tg_R 0 0) [.ref (A 0)] (wC G A c) (fun v w1 => v = none ∧ w1 = wC G A z) := by
  refine Mt_of2 (own := "TramGod") (nm := "clearDelays") rfl rfl rfl (Nat.le_of_ble_eq_true rfl) (lv := [(0, .ref (A 0))]) rfl ?_
  unfold fX6_clearDelays at h
  refine V_iconst (v := (0 : Int32)) eX6_clearDelays_0 rfl ?_
  refine V_istore_n (lv' := [(1, .int (0 : Int32)), (0, .ref (A 0))]) eX6_clearDelays_1 (Nat.le_of_ble_eq_true rfl) rfl ?_
  refine V_lv (lv' := [(0, .ref (A 0)), (1, .int (0 : Int32))]) [1, 0] rfl ?_
  refine ctX6_clearDelays_L2 l G A fu (0 : Int32) c h
theorem hdX6_closing : yX6_closing.cls ≠ "java/lang/invoke/MethodHandle" ∧ yX6_closing.cls ≠ "java/lang/invoke/VarHandle" ∧ (parseMethodDescriptor yX6_closing.desc).map (fun d => d.parameters.length) = some 2 := by decide +kernel
theorem eX6_closing_0 : Dc cX6_closing 0 (.iload_n 1) 1 1 := ⟨by decide +kernel, rfl⟩
theorem eX6_closing_1 : Dc cX6_closing 1 (.iconst 0) 1 2 := ⟨by decide +kernel, rfl⟩
theorem eX6_closing_2 : Dc cX6_closing 2 (.bipush 6) 2 4 := ⟨by decide +kernel, rfl⟩
theorem eX6_closing_4 : Dc cX6_closing 4 (.invokestatic 68) 3 7 := ⟨by decide +kernel, rfl⟩
theorem eX6_closing_7 : Dc cX6_closing 7 (.ifCond .eq 12) 3 10 := ⟨by decide +kernel, rfl⟩
theorem eX6_closing_10 : Dc cX6_closing 10 (.iload_n 2) 1 11 := ⟨by decide +kernel, rfl⟩
theorem eX6_closing_11 : Dc cX6_closing 11 (.iconst 0) 1 12 := ⟨by decide +kernel, rfl⟩
theorem eX6_closing_12 : Dc cX6_closing 12 (.iconst 1) 1 13 := ⟨by decide +kernel, rfl⟩
theorem eX6_closing_13 : Dc cX6_closing 13 (.invokestatic 68) 3 16 := ⟨by decide +kernel, rfl⟩
theorem eX6_closing_16 : Dc cX6_closing 16 (.ifCond .ne 6) 3 19 := ⟨by decide +kernel, rfl⟩
theorem eX6_closing_19 : Dc cX6_closing 19 (.bipush (-2)) 2 21 := ⟨by decide +kernel, rfl⟩
theorem eX6_closing_21 : Dc cX6_closing 21 (.ireturn) 1 22 := ⟨by decide +kernel, rfl⟩
theorem eX6_closing_22 : Dc cX6_closing 22 (.aload_n 0) 1 23 := ⟨by decide +kernel, rfl⟩
theorem eX6_closing_23 : Dc cX6_closing 23 (.invokevirtual 204) 3 26 := ⟨by decide +kernel, rfl⟩
theorem eX6_closing_26 : Dc cX6_closing 26 (.iconst 0) 1 27 := ⟨by decide +kernel, rfl⟩
theorem eX6_closing_27 : Dc cX6_closing 27 (.istore_n 3) 1 28 := ⟨by decide +kernel, rfl⟩
theorem eX6_closing_28 : Dc cX6_closing 28 (.bipush (-6)) 2 30 := ⟨by decide +kernel, rfl⟩
theorem eX6_closing_30 : Dc cX6_closing 30 (.istore 4) 2 32 := ⟨by decide +kernel, rfl⟩
theorem eX6_closing_32 : Dc cX6_closing 32 (.iconst 0) 1 33 := ⟨by decide +kernel, rfl⟩
theorem eX6_closing_33 : Dc cX6_closing 33 (.istore 5) 2 35 := ⟨by decide +kernel, rfl⟩
theorem eX6_closing_35 : Dc cX6_closing 35 (.iload 5) 2 37 := ⟨by decide +kernel, rfl⟩
theorem eX6_closing_37 : Dc cX6_closing 37 (.iconst 1) 1 38 := ⟨by decide +kernel, rfl⟩
theorem eX6_closing_38 : Dc cX6_closing 38 (.aload_n 0) 1 39 := ⟨by decide +kernel, rfl⟩
theorem eX6_closing_39 : Dc cX6_closing 39 (.getfield 19) 3 42 := ⟨by decide +kernel, rfl⟩
theorem eX6_closing_42 : Dc cX6_closing 42 (.getfield 84) 3 45 := ⟨by decide +kernel, rfl⟩
theorem eX6_closing_45 : Dc cX6_closing 45 (.ishl) 1 46 := ⟨by decide +kernel, rfl⟩
theorem eX6_closing_46 : Dc cX6_closing 46 (.if_icmp .ge 88) 3 49 := ⟨by decide +kernel, rfl⟩
theorem eX6_closing_49 : Dc cX6_closing 49 (.iload 5) 2 51 := ⟨by decide +kernel, rfl⟩
theorem eX6_closing_51 : Dc cX6_closing 51 (.invokestatic 121) 3 54 := ⟨by decide +kernel, rfl⟩
theorem eX6_closing_54 : Dc cX6_closing 54 (.iload_n 1) 1 55 := ⟨by decide +kernel, rfl⟩
theorem eX6_closing_55 : Dc cX6_closing 55 (.if_icmp .ne 73) 3 58 := ⟨by decide +kernel, rfl⟩
theorem eX6_closing_58 : Dc cX6_closing 58 (.iload 5) 2 60 := ⟨by decide +kernel, rfl⟩
theorem eX6_closing_60 : Dc cX6_closing 60 (.aload_n 0) 1 61 := ⟨by decide +kernel, rfl⟩
theorem eX6_closing_61 : Dc cX6_closing 61 (.getfield 19) 3 64 := ⟨by decide +kernel, rfl⟩
theorem eX6_closing_64 : Dc cX6_closing 64 (.getfield 94) 3 67 := ⟨by decide +kernel, rfl⟩
theorem eX6_closing_67 : Dc cX6_closing 67 (.iand) 1 68 := ⟨by decide +kernel, rfl⟩
theorem eX6_closing_68 : Dc cX6_closing 68 (.ifCond .ne 60) 3 71 := ⟨by decide +kernel, rfl⟩
theorem eX6_closing_71 : Dc cX6_closing 71 (.aload_n 0) 1 72 := ⟨by decide +kernel, rfl⟩
theorem eX6_closing_72 : Dc cX6_closing 72 (.getfield 32) 3 75 := ⟨by decide +kernel, rfl⟩
theorem eX6_closing_75 : Dc cX6_closing 75 (.aload_n 0) 1 76 := ⟨by decide +kernel, rfl⟩
theorem eX6_closing_76 : Dc cX6_closing 76 (.getfield 19) 3 79 := ⟨by decide +kernel, rfl⟩
theorem eX6_closing_79 : Dc cX6_closing 79 (.getfield 94) 3 82 := ⟨by decide +kernel, rfl⟩
theorem eX6_closing_82 : Dc cX6_closing 82 (.iload 5) 2 84 := ⟨by decide +kernel, rfl⟩
theorem eX6_closing_84 : Dc cX6_closing 84 (.ior) 1 85 := ⟨by decide +kernel, rfl⟩
theorem eX6_closing_85 : Dc cX6_closing 85 (.invokevirtual 182) 3 88 := ⟨by decide +kernel, rfl⟩
theorem eX6_closing_88 : Dc cX6_closing 88 (.aload_n 0) 1 89 := ⟨by decide +kernel, rfl⟩
theorem eX6_closing_89 : Dc cX6_closing 89 (.getfield 19) 3 92 := ⟨by decide +kernel, rfl⟩
theorem eX6_closing_92 : Dc cX6_closing 92 (.aload_n 0) 1 93 := ⟨by decide +kernel, rfl⟩
theorem eX6_closing_93 : Dc cX6_closing 93 (.getfield 32) 3 96 := ⟨by decide +kernel, rfl⟩
theorem eX6_closing_96 : Dc cX6_closing 96 (.aload_n 0) 1 97 := ⟨by decide +kernel, rfl⟩
theorem eX6_closing_97 : Dc cX6_closing 97 (.getfield 65) 3 100 := ⟨by decide +kernel, rfl⟩
theorem eX6_closing_100 : Dc cX6_closing 100 (.invokevirtual 150) 3 103 := ⟨by decide +kernel, rfl⟩
theorem eX6_closing_103 : Dc cX6_closing 103 (.invokevirtual 154) 3 106 := ⟨by decide +kernel, rfl⟩
theorem eX6_closing_106 : Dc cX6_closing 106 (.istore 6) 2 108 := ⟨by decide +kernel, rfl⟩
theorem eX6_closing_108 : Dc cX6_closing 108 (.iload 4) 2 110 := ⟨by decide +kernel, rfl⟩
theorem eX6_closing_110 : Dc cX6_closing 110 (.bipush (-6)) 2 112 := ⟨by decide +kernel, rfl⟩
theorem eX6_closing_112 : Dc cX6_closing 112 (.if_icmp .eq 9) 3 115 := ⟨by decide +kernel, rfl⟩
theorem eX6_closing_115 : Dc cX6_closing 115 (.iload 6) 2 117 := ⟨by decide +kernel, rfl⟩
theorem eX6_closing_117 : Dc cX6_closing 117 (.iload_n 3) 1 118 := ⟨by decide +kernel, rfl⟩
theorem eX6_closing_118 : Dc cX6_closing 118 (.if_icmp .le 10) 3 121 := ⟨by decide +kernel, rfl⟩
theorem eX6_closing_121 : Dc cX6_closing 121 (.iload 6) 2 123 := ⟨by decide +kernel, rfl⟩
theorem eX6_closing_123 : Dc cX6_closing 123 (.istore_n 3) 1 124 := ⟨by decide +kernel, rfl⟩
theorem eX6_closing_124 : Dc cX6_closing 124 (.iload 5) 2 126 := ⟨by decide +kernel, rfl⟩
theorem eX6_closing_126 : Dc cX6_closing 126 (.istore 4) 2 128 := ⟨by decide +kernel, rfl⟩
theorem eX6_closing_128 : Dc cX6_closing 128 (.iinc 5 1) 3 131 := ⟨by decide +kernel, rfl⟩
theorem eX6_closing_131 : Dc cX6_closing 131 (.goto (-96)) 3 134 := ⟨by decide +kernel, rfl⟩
theorem eX6_closing_134 : Dc cX6_closing 134 (.iload 4) 2 136 := ⟨by decide +kernel, rfl⟩
theorem eX6_closing_136 : Dc cX6_closing 136 (.bipush (-6)) 2 138 := ⟨by decide +kernel, rfl⟩
theorem eX6_closing_138 : Dc cX6_closing 138 (.if_icmp .eq 8) 3 141 := ⟨by decide +kernel, rfl⟩
theorem eX6_closing_141 : Dc cX6_closing 141 (.iload_n 2) 1 142 := ⟨by decide +kernel, rfl⟩
theorem eX6_closing_142 : Dc cX6_closing 142 (.iconst 1) 1 143 := ⟨by decide +kernel, rfl⟩
theorem eX6_closing_143 : Dc cX6_closing 143 (.if_icmp .ne 8) 3 146 := ⟨by decide +kernel, rfl⟩
theorem eX6_closing_146 : Dc cX6_closing 146 (.iload 4) 2 148 := ⟨by decide +kernel, rfl⟩
theorem eX6_closing_148 : Dc cX6_closing 148 (.goto 8) 3 151 := ⟨by decide +kernel, rfl⟩
theorem eX6_closing_151 : Dc cX6_closing 151 (.iload_n 3) 1 152 := ⟨by decide +kernel, rfl⟩
theorem eX6_closing_152 : Dc cX6_closing 152 (.sipush 1000) 3 155 := ⟨by decide +kernel, rfl⟩
theorem eX6_closing_155 : Dc cX6_closing 155 (.iadd) 1 156 := ⟨by decide +kernel, rfl⟩
theorem eX6_closing_156 : Dc cX6_closing 156 (.ireturn) 1 157 := ⟨by decide +kernel, rfl⟩
def fX6_closing_L35 (k : Int32 → Int32 → SS → Option (Int32 × SS)) (a1 : Int32) (a2 : Int32) : Nat → Int32 → Int32 → Int32 → SS → Option (Int32 × SS)
  | 0, _, _, _, _ => none
  | n + 1, a3, a4, a5, c => if ((1 : Int32) <<< ((c.1 1) &&& 31)) ≤ a5 then k a3 a4 c else jn (fun (x5 : Int32) (x6 : Int32) (c7 : SS) => fX6_closing_L35 k a1 a2 n x5 x6 (a5 + (1 : Int32)) c7) (fun j128 => if (fJ6_bitCount_0f7a4 a5) = a1 then if (a5 &&& (c.1 2)) = (0 : Int32) then Option.bind (fX4_measure c ((c.1 2) ||| a5)) (fun q10 => Option.bind (fX4_ridersBy_27 q10) (fun q11 => Option.bind (fX5_goodOf q10 q11) (fun q12 => jn (fun (_ : Unit) => j128 q12 a5 q10) (fun j121 => if a4 = (-6 : Int32) then j121 () else if q12 ≤ a3 then j128 a3 a4 q10 else j121 ())))) else j128 a3 a4 c else j128 a3 a4 c)
def fX6_closing (c : SS) (p1 : Int32) (p2 : Int32) : Option (Int32 × SS) := if (fX6_within p1 (0 : Int32) (6 : Int32)) = (0 : Int32) then some ((-2 : Int32), c) else if (fX6_within p2 (0 : Int32) (1 : Int32)) = (0 : Int32) then some ((-2 : Int32), c) else Option.bind (fX6_clearDelays c) (fun q3 => fX6_closing_L35 (fun (x15 : Int32) (x16 : Int32) (c17 : SS) => if x16 = (-6 : Int32) then some (x16, c17) else if p2 = (1 : Int32) then some (x16, c17) else some ((x15 + (1000 : Int32)), c17)) p1 p2 fu (0 : Int32) (-6 : Int32) (0 : Int32) q3)
set_option maxRecDepth 20000 in
theorem ctX6_closing_L35 (l : Launch) (G : tg_G) (A : Nat → Nat) (k : Int32 → Int32 → SS → Option (Int32 × SS)) (a1 : Int32) (a2 : Int32) {z : Int32 × SS} (hk : ∀ (e3 : Int32) (e4 : Int32) (ec : SS), k e3 e4 ec = some z → V l G (tg_Zm G (fun v w1 => v = some (.int z.1) ∧ w1 = wC G A z.2) 0 0) tg_E0 (tg_R 3 67) "TramGod" "closing" cX6_closing 7 (some .int) 134 [(2, .int a2), (3, .int e3), (4, .int e4)] [] (wC G A ec) 0 0) : ∀ (n : Nat) (a3 : Int32) (a4 : Int32) (a5 : Int32) (c : SS), fX6_closing_L35 k a1 a2 n a3 a4 a5 c = some z → V l G (tg_Zm G (fun v w1 => v = some (.int z.1) ∧ w1 = wC G A z.2) 0 0) tg_E0 (tg_R 3 67) "TramGod" "closing" cX6_closing 7 (some .int) 35 [(0, .ref (A 0)), (1, .int a1), (2, .int a2), (3, .int a3), (4, .int a4), (5, .int a5)] [] (wC G A c) 0 0 := by
  intro n
  induction n with
  | zero => intro a3 a4 a5 c h; exact absurd h (by simp [fX6_closing_L35])
  | succ n ih =>
    intro a3 a4 a5 c h
    unfold fX6_closing_L35 at h
    refine V_iload eX6_closing_35 5 rfl ?_
    refine V_iconst (v := (1 : Int32)) eX6_closing_37 rfl ?_
    refine V_aload_n eX6_closing_38 0 rfl ?_
    refine V_get (v := .ref (A 3)) eX6_closing_39 inX6 0 rfl rfl 1 (Nat.le_of_ble_eq_true rfl) tw_208 rfl ?_
    refine V_get (v := .int (c.1 1)) eX6_closing_42 inX5 3 rfl rfl 0 (Nat.le_of_ble_eq_true rfl) tw_44 rfl ?_
    refine V_ishl eX6_closing_45 ?_
    refine V_icmp_ge (tgt := 134) eX6_closing_46 rfl (fun hb4 => ?_) (fun hb4 => ?_)
    · replace h := (if_pos hb4).symm.trans h
      refine V_lv (lv' := [(2, .int a2), (3, .int a3), (4, .int a4)]) [2, 3, 4] rfl ?_
      exact hk a3 a4 c h
    · replace h := (if_neg hb4).symm.trans h
      refine V_iload eX6_closing_49 5 rfl ?_
      refine V_callSi (rest := []) eX6_closing_51 (ctJ6_bitCount_0f7a4 l G _ a5 rfl) tc_300 tw_298 tw_10 tw_299 hdJ6_bitCount_0f7a4 rfl ⟨Nat.le_of_ble_eq_true rfl, Nat.le_of_ble_eq_true rfl⟩ rfl (Nat.le_of_ble_eq_true rfl) ⟨Nat.zero_le _, Nat.zero_le _⟩ ?_
      refine V_iload_n eX6_closing_54 1 rfl ?_
      refine jn_elim h (fun j => ∀ (x5 : Int32) (x6 : Int32) (c7 : SS), j x5 x6 c7 = some z → V l G (tg_Zm G (fun v w1 => v = some (.int z.1) ∧ w1 = wC G A z.2) 0 0) tg_E0 (tg_R 3 67) "TramGod" "closing" cX6_closing 7 (some .int) 128 [(0, .ref (A 0)), (1, .int a1), (2, .int a2), (3, .int x5), (4, .int x6), (5, .int a5)] [] (wC G A c7) 0 0) ?_ (fun j128 hj128 h => ?_)
      · intro x5 x6 c7 h
        refine V_iinc (v := (a5 + (1 : Int32))) (lv' := [(5, .int (a5 + (1 : Int32))), (0, .ref (A 0)), (1, .int a1), (2, .int a2), (3, .int x5), (4, .int x6)]) eX6_closing_128 5 rfl rfl (Nat.le_of_ble_eq_true rfl) rfl ?_
        refine V_goto (tgt := 35) eX6_closing_131 rfl ?_
        refine V_lv (lv' := [(0, .ref (A 0)), (1, .int a1), (2, .int a2), (3, .int x5), (4, .int x6), (5, .int (a5 + (1 : Int32)))]) [1, 2, 3, 4, 5, 0] rfl ?_
        exact ih x5 x6 (a5 + (1 : Int32)) c7 h
      refine V_icmp_ne (tgt := 128) eX6_closing_55 rfl (fun hb8 => ?_) (fun hb8 => ?_)
      · replace h := (if_neg hb8).symm.trans h
        exact hj128 a3 a4 c h
      · replace h := (if_pos hb8).symm.trans h
        refine V_iload eX6_closing_58 5 rfl ?_
        refine V_aload_n eX6_closing_60 0 rfl ?_
        refine V_get (v := .ref (A 3)) eX6_closing_61 inX6 0 rfl rfl 1 (Nat.le_of_ble_eq_true rfl) tw_208 rfl ?_
        refine V_get (v := .int (c.1 2)) eX6_closing_64 inX5 3 rfl rfl 1 (Nat.le_of_ble_eq_true rfl) tw_47 rfl ?_
        refine V_iand eX6_closing_67 ?_
        refine V_if_ne (tgt := 128) eX6_closing_68 rfl (fun hb9 => ?_) (fun hb9 => ?_)
        · replace h := (if_neg hb9).symm.trans h
          exact hj128 a3 a4 c h
        · replace h := (if_pos hb9).symm.trans h
          refine V_aload_n eX6_closing_71 0 rfl ?_
          refine V_get (v := .ref (A 11)) eX6_closing_72 inX6 0 rfl rfl 3 (Nat.le_of_ble_eq_true rfl) tw_210 rfl ?_
          refine V_aload_n eX6_closing_75 0 rfl ?_
          refine V_get (v := .ref (A 3)) eX6_closing_76 inX6 0 rfl rfl 1 (Nat.le_of_ble_eq_true rfl) tw_208 rfl ?_
          refine V_get (v := .int (c.1 2)) eX6_closing_79 inX5 3 rfl rfl 1 (Nat.le_of_ble_eq_true rfl) tw_47 rfl ?_
          refine V_iload eX6_closing_82 5 rfl ?_
          refine V_ior eX6_closing_84 ?_
          obtain ⟨q10, hc10, h⟩ := Option.bind_eq_some_iff.mp h
          refine V_callVv (rest := []) eX6_closing_85 (ctX4_measure l G A c ((c.1 2) ||| a5) hc10) tc_352 tw_349 tw_4 tw_350 tw_351 11 rfl rfl hdX4_measure rfl ⟨Nat.le_of_ble_eq_true rfl, Nat.le_of_ble_eq_true rfl⟩ rfl (Nat.le_of_ble_eq_true rfl) ⟨Nat.zero_le _, Nat.zero_le _⟩ ?_
          refine V_aload_n eX6_closing_88 0 rfl ?_
          refine V_get (v := .ref (A 3)) eX6_closing_89 inX6 0 rfl rfl 1 (Nat.le_of_ble_eq_true rfl) tw_208 rfl ?_
          refine V_aload_n eX6_closing_92 0 rfl ?_
          refine V_get (v := .ref (A 11)) eX6_closing_93 inX6 0 rfl rfl 3 (Nat.le_of_ble_eq_true rfl) tw_210 rfl ?_
          refine V_aload_n eX6_closing_96 0 rfl ?_
          refine V_get (v := .ref (A 27)) eX6_closing_97 inX6 0 rfl rfl 8 (Nat.le_of_ble_eq_true rfl) tw_215 rfl ?_
          obtain ⟨q11, hc11, h⟩ := Option.bind_eq_some_iff.mp h
          refine V_callVi (rest := [.ref (A 3)]) eX6_closing_100 (ctX4_ridersBy_27 l G A q10 hc11) tc_365 tw_362 tw_4 tw_363 tw_364 11 rfl rfl hdX4_ridersBy rfl ⟨Nat.le_of_ble_eq_true rfl, Nat.le_of_ble_eq_true rfl⟩ rfl (Nat.le_of_ble_eq_true rfl) ⟨Nat.zero_le _, Nat.zero_le _⟩ ?_
          obtain ⟨q12, hc12, h⟩ := Option.bind_eq_some_iff.mp h
          refine V_callVi (rest := []) eX6_closing_103 (ctX5_goodOf l G A q10 q11 hc12) tc_377 tw_374 tw_3 tw_375 tw_376 3 rfl rfl hdX5_goodOf rfl ⟨Nat.le_of_ble_eq_true rfl, Nat.le_of_ble_eq_true rfl⟩ rfl (Nat.le_of_ble_eq_true rfl) ⟨Nat.zero_le _, Nat.zero_le _⟩ ?_
          refine V_istore (lv' := [(6, .int q12), (0, .ref (A 0)), (1, .int a1), (2, .int a2), (3, .int a3), (4, .int a4), (5, .int a5)]) eX6_closing_106 (Nat.le_of_ble_eq_true rfl) rfl ?_
          refine V_iload eX6_closing_108 5 rfl ?_
          refine V_bipush (v := (-6 : Int32)) eX6_closing_110 rfl ?_
          refine jn_elim h (fun j => j () = some z → V l G (tg_Zm G (fun v w1 => v = some (.int z.1) ∧ w1 = wC G A z.2) 0 0) tg_E0 (tg_R 3 67) "TramGod" "closing" cX6_closing 7 (some .int) 121 [(0, .ref (A 0)), (1, .int a1), (2, .int a2), (5, .int a5), (6, .int q12)] [] (wC G A q10) 0 0) ?_ (fun j121 hj121 h => ?_)
          · intro h
            refine V_iload eX6_closing_121 4 rfl ?_
            refine V_istore_n (lv' := [(3, .int q12), (0, .ref (A 0)), (1, .int a1), (2, .int a2), (5, .int a5), (6, .int q12)]) eX6_closing_123 (Nat.le_of_ble_eq_true rfl) rfl ?_
            refine V_iload eX6_closing_124 4 rfl ?_
            refine V_istore (lv' := [(4, .int a5), (3, .int q12), (0, .ref (A 0)), (1, .int a1), (2, .int a2), (5, .int a5), (6, .int q12)]) eX6_closing_126 (Nat.le_of_ble_eq_true rfl) rfl ?_
            refine V_lv (lv' := [(0, .ref (A 0)), (1, .int a1), (2, .int a2), (3, .int q12), (4, .int a5), (5, .int a5)]) [2, 3, 4, 1, 0, 5] rfl ?_
            exact hj128 q12 a5 q10 h
          refine V_icmp_eq (tgt := 121) eX6_closing_112 rfl (fun hb13 => ?_) (fun hb13 => ?_)
          · replace h := (if_pos hb13).symm.trans h
            refine V_lv (lv' := [(0, .ref (A 0)), (1, .int a1), (2, .int a2), (5, .int a5), (6, .int q12)]) [1, 2, 3, 6, 0] rfl ?_
            exact hj121 h
          · replace h := (if_neg hb13).symm.trans h
            refine V_iload eX6_closing_115 0 rfl ?_
            refine V_iload_n eX6_closing_117 4 rfl ?_
            refine V_icmp_le (tgt := 128) eX6_closing_118 rfl (fun hb14 => ?_) (fun hb14 => ?_)
            · replace h := (if_pos hb14).symm.trans h
              refine V_lv (lv' := [(0, .ref (A 0)), (1, .int a1), (2, .int a2), (3, .int a3), (4, .int a4), (5, .int a5)]) [1, 2, 3, 4, 5, 6] rfl ?_
              exact hj128 a3 a4 q10 h
            · replace h := (if_neg hb14).symm.trans h
              refine V_lv (lv' := [(0, .ref (A 0)), (1, .int a1), (2, .int a2), (5, .int a5), (6, .int q12)]) [1, 2, 3, 6, 0] rfl ?_
              exact hj121 h
set_option maxRecDepth 20000 in
theorem ctX6_closing (l : Launch) (G : tg_G) (A : Nat → Nat) (c : SS) (p1 : Int32) (p2 : Int32) {z : Int32 × SS} (h : fX6_closing c p1 p2 = some z) : Mt l G yX6_closing cX6_closing 7 (some .int) (tg_R 3 67) [.ref (A 0), .int p1, .int p2] (wC G A c) (fun v w1 => v = some (.int z.1) ∧ w1 = wC G A z.2) := by
  refine Mt_of2 (own := "TramGod") (nm := "closing") rfl rfl rfl (Nat.le_of_ble_eq_true rfl) (lv := [(0, .ref (A 0)), (1, .int p1), (2, .int p2)]) rfl ?_
  unfold fX6_closing at h
  refine V_iload_n eX6_closing_0 1 rfl ?_
  refine V_iconst (v := (0 : Int32)) eX6_closing_1 rfl ?_
  refine V_bipush (v := (6 : Int32)) eX6_closing_2 rfl ?_
  refine V_callSi (rest := []) eX6_closing_4 (ctX6_within l G _ p1 (0 : Int32) (6 : Int32) rfl) tc_241 tw_239 tw_1 tw_240 hdX6_within rfl ⟨Nat.le_of_ble_eq_true rfl, Nat.le_of_ble_eq_true rfl⟩ rfl (Nat.le_of_ble_eq_true rfl) ⟨Nat.zero_le _, Nat.zero_le _⟩ ?_
  refine V_if_eq (tgt := 19) eX6_closing_7 rfl (fun hb1 => ?_) (fun hb1 => ?_)
  · replace h := (if_pos hb1).symm.trans h
    refine V_bipush (v := (-2 : Int32)) eX6_closing_19 rfl ?_
    obtain rfl := Option.some.inj h
    exact V_ret eX6_closing_21 rfl ⟨rfl, rfl⟩
  · replace h := (if_neg hb1).symm.trans h
    refine V_iload_n eX6_closing_10 2 rfl ?_
    refine V_iconst (v := (0 : Int32)) eX6_closing_11 rfl ?_
    refine V_iconst (v := (1 : Int32)) eX6_closing_12 rfl ?_
    refine V_callSi (rest := []) eX6_closing_13 (ctX6_within l G _ p2 (0 : Int32) (1 : Int32) rfl) tc_241 tw_239 tw_1 tw_240 hdX6_within rfl ⟨Nat.le_of_ble_eq_true rfl, Nat.le_of_ble_eq_true rfl⟩ rfl (Nat.le_of_ble_eq_true rfl) ⟨Nat.zero_le _, Nat.zero_le _⟩ ?_
    refine V_if_ne (tgt := 22) eX6_closing_16 rfl (fun hb2 => ?_) (fun hb2 => ?_)
    · replace h := (if_neg hb2).symm.trans h
      refine V_aload_n eX6_closing_22 0 rfl ?_
      obtain ⟨q3, hc3, h⟩ := Option.bind_eq_some_iff.mp h
      refine V_callVv (rest := []) eX6_closing_23 (ctX6_clearDelays l G A c hc3) tc_556 tw_553 tw_1 tw_555 ts_19 0 rfl rfl hdX6_clearDelays rfl ⟨Nat.le_of_ble_eq_true rfl, Nat.le_of_ble_eq_true rfl⟩ rfl (Nat.le_of_ble_eq_true rfl) ⟨Nat.zero_le _, Nat.zero_le _⟩ ?_
      refine V_iconst (v := (0 : Int32)) eX6_closing_26 rfl ?_
      refine V_istore_n (lv' := [(3, .int (0 : Int32)), (0, .ref (A 0)), (1, .int p1), (2, .int p2)]) eX6_closing_27 (Nat.le_of_ble_eq_true rfl) rfl ?_
      refine V_bipush (v := (-6 : Int32)) eX6_closing_28 rfl ?_
      refine V_istore (lv' := [(4, .int (-6 : Int32)), (3, .int (0 : Int32)), (0, .ref (A 0)), (1, .int p1), (2, .int p2)]) eX6_closing_30 (Nat.le_of_ble_eq_true rfl) rfl ?_
      refine V_iconst (v := (0 : Int32)) eX6_closing_32 rfl ?_
      refine V_istore (lv' := [(5, .int (0 : Int32)), (4, .int (-6 : Int32)), (3, .int (0 : Int32)), (0, .ref (A 0)), (1, .int p1), (2, .int p2)]) eX6_closing_33 (Nat.le_of_ble_eq_true rfl) rfl ?_
      refine V_lv (lv' := [(0, .ref (A 0)), (1, .int p1), (2, .int p2), (3, .int (0 : Int32)), (4, .int (-6 : Int32)), (5, .int (0 : Int32))]) [3, 4, 5, 2, 1, 0] rfl ?_
      refine ctX6_closing_L35 l G A _ p1 p2 ?_ fu (0 : Int32) (-6 : Int32) (0 : Int32) q3 h
      · intro x15 x16 c17 h
        refine V_iload eX6_closing_134 2 rfl ?_
        refine V_bipush (v := (-6 : Int32)) eX6_closing_136 rfl ?_
        refine V_icmp_eq (tgt := 146) eX6_closing_138 rfl (fun hb18 => ?_) (fun hb18 => ?_)
        · replace h := (if_pos hb18).symm.trans h
          refine V_iload eX6_closing_146 2 rfl ?_
          refine V_goto (tgt := 156) eX6_closing_148 rfl ?_
          obtain rfl := Option.some.inj h
          exact V_ret eX6_closing_156 rfl ⟨rfl, rfl⟩
        · replace h := (if_neg hb18).symm.trans h
          refine V_iload_n eX6_closing_141 0 rfl ?_
          refine V_iconst (v := (1 : Int32)) eX6_closing_142 rfl ?_
          refine V_icmp_ne (tgt := 151) eX6_closing_143 rfl (fun hb19 => ?_) (fun hb19 => ?_)
          · replace h := (if_neg hb19).symm.trans h
            refine V_iload_n eX6_closing_151 1 rfl ?_
            refine V_sipush (v := (1000 : Int32)) eX6_closing_152 rfl ?_
            refine V_iadd eX6_closing_155 ?_
            obtain rfl := Option.some.inj h
            exact V_ret eX6_closing_156 rfl ⟨rfl, rfl⟩
          · replace h := (if_pos hb19).symm.trans h
            refine V_iload eX6_closing_146 2 rfl ?_
            refine V_goto (tgt := 156) eX6_closing_148 rfl ?_
            obtain rfl := Option.some.inj h
            exact V_ret eX6_closing_156 rfl ⟨rfl, rfl⟩
    · replace h := (if_pos hb2).symm.trans h
      refine V_bipush (v := (-2 : Int32)) eX6_closing_19 rfl ?_
      obtain rfl := Option.some.inj h
      exact V_ret eX6_closing_21 rfl ⟨rfl, rfl⟩
theorem hdX5_addSight : yX5_addSight.cls ≠ "java/lang/invoke/MethodHandle" ∧ yX5_addSight.cls ≠ "java/lang/invoke/VarHandle" ∧ (parseMethodDescriptor yX5_addSight.desc).map (fun d => d.parameters.length) = some 2 := by decide +kernel
theorem eX5_addSight_0 : Dc cX5_addSight 0 (.aload_n 0) 1 1 := ⟨by decide +kernel, rfl⟩
theorem eX5_addSight_1 : Dc cX5_addSight 1 (.dup) 1 2 := ⟨by decide +kernel, rfl⟩
theorem eX5_addSight_2 : Dc cX5_addSight 2 (.getfield 49) 3 5 := ⟨by decide +kernel, rfl⟩
theorem eX5_addSight_5 : Dc cX5_addSight 5 (.iconst 1) 1 6 := ⟨by decide +kernel, rfl⟩
theorem eX5_addSight_6 : Dc cX5_addSight 6 (.iadd) 1 7 := ⟨by decide +kernel, rfl⟩
theorem eX5_addSight_7 : Dc cX5_addSight 7 (.putfield 49) 3 10 := ⟨by decide +kernel, rfl⟩
theorem eX5_addSight_10 : Dc cX5_addSight 10 (.iload_n 2) 1 11 := ⟨by decide +kernel, rfl⟩
theorem eX5_addSight_11 : Dc cX5_addSight 11 (.ifCond .eq 18) 3 14 := ⟨by decide +kernel, rfl⟩
theorem eX5_addSight_14 : Dc cX5_addSight 14 (.aload_n 0) 1 15 := ⟨by decide +kernel, rfl⟩
theorem eX5_addSight_15 : Dc cX5_addSight 15 (.dup) 1 16 := ⟨by decide +kernel, rfl⟩
theorem eX5_addSight_16 : Dc cX5_addSight 16 (.getfield 52) 3 19 := ⟨by decide +kernel, rfl⟩
theorem eX5_addSight_19 : Dc cX5_addSight 19 (.iconst 1) 1 20 := ⟨by decide +kernel, rfl⟩
theorem eX5_addSight_20 : Dc cX5_addSight 20 (.iload_n 1) 1 21 := ⟨by decide +kernel, rfl⟩
theorem eX5_addSight_21 : Dc cX5_addSight 21 (.ishl) 1 22 := ⟨by decide +kernel, rfl⟩
theorem eX5_addSight_22 : Dc cX5_addSight 22 (.ior) 1 23 := ⟨by decide +kernel, rfl⟩
theorem eX5_addSight_23 : Dc cX5_addSight 23 (.putfield 52) 3 26 := ⟨by decide +kernel, rfl⟩
theorem eX5_addSight_26 : Dc cX5_addSight 26 (.goto 15) 3 29 := ⟨by decide +kernel, rfl⟩
theorem eX5_addSight_29 : Dc cX5_addSight 29 (.aload_n 0) 1 30 := ⟨by decide +kernel, rfl⟩
theorem eX5_addSight_30 : Dc cX5_addSight 30 (.dup) 1 31 := ⟨by decide +kernel, rfl⟩
theorem eX5_addSight_31 : Dc cX5_addSight 31 (.getfield 55) 3 34 := ⟨by decide +kernel, rfl⟩
theorem eX5_addSight_34 : Dc cX5_addSight 34 (.iconst 1) 1 35 := ⟨by decide +kernel, rfl⟩
theorem eX5_addSight_35 : Dc cX5_addSight 35 (.iload_n 1) 1 36 := ⟨by decide +kernel, rfl⟩
theorem eX5_addSight_36 : Dc cX5_addSight 36 (.ishl) 1 37 := ⟨by decide +kernel, rfl⟩
theorem eX5_addSight_37 : Dc cX5_addSight 37 (.ior) 1 38 := ⟨by decide +kernel, rfl⟩
theorem eX5_addSight_38 : Dc cX5_addSight 38 (.putfield 55) 3 41 := ⟨by decide +kernel, rfl⟩
theorem eX5_addSight_41 : Dc cX5_addSight 41 (.return_) 1 42 := ⟨by decide +kernel, rfl⟩
def fX5_addSight (c : SS) (p1 : Int32) (p2 : Int32) : SS := if p2 = (0 : Int32) then (sF (sF c 6 ((c.1 6) + (1 : Int32))) 8 ((c.1 8) ||| ((1 : Int32) <<< (p1 &&& 31)))) else (sF (sF c 6 ((c.1 6) + (1 : Int32))) 7 ((c.1 7) ||| ((1 : Int32) <<< (p1 &&& 31))))
set_option maxRecDepth 20000 in
theorem ctX5_addSight (l : Launch) (G : tg_G) (A : Nat → Nat) (c : SS) (p1 : Int32) (p2 : Int32) {z : SS} (h : fX5_addSight c p1 p2 = z) : Mt l G yX5_addSight cX5_addSight 3 none (tg_R 0 0) [.ref (A 3), .int p1, .int p2] (wC G A c) (fun v w1 => v = none ∧ w1 = wC G A z) := by
  refine Mt_of2 (own := "TramGod$World") (nm := "addSight") rfl rfl rfl (Nat.le_of_ble_eq_true rfl) (lv := [(0, .ref (A 3)), (1, .int p1), (2, .int p2)]) rfl ?_
  unfold fX5_addSight at h
  refine V_aload_n eX5_addSight_0 0 rfl ?_
  refine V_dup eX5_addSight_1 rfl ?_
  refine V_get (v := .int (c.1 6)) eX5_addSight_2 inX5 3 rfl rfl 5 (Nat.le_of_ble_eq_true rfl) tw_56 rfl ?_
  refine V_iconst (v := (1 : Int32)) eX5_addSight_5 rfl ?_
  refine V_iadd eX5_addSight_6 ?_
  refine V_put (w' := wC G A (sF c 6 ((c.1 6) + (1 : Int32)))) eX5_addSight_7 inX5 tyX5 tyX5_ok nmX5 3 rfl rfl 5 (Nat.le_of_ble_eq_true rfl) tw_56 rfl rfl rfl rfl (Nat.le_of_ble_eq_true rfl) rfl ?_
  refine V_iload_n eX5_addSight_10 2 rfl ?_
  refine V_if_eq (tgt := 29) eX5_addSight_11 rfl (fun hb1 => ?_) (fun hb1 => ?_)
  · replace h := (if_pos hb1).symm.trans h
    refine V_aload_n eX5_addSight_29 0 rfl ?_
    refine V_dup eX5_addSight_30 rfl ?_
    refine V_get (v := .int (c.1 8)) eX5_addSight_31 inX5 3 rfl rfl 7 (Nat.le_of_ble_eq_true rfl) tw_60 rfl ?_
    refine V_iconst (v := (1 : Int32)) eX5_addSight_34 rfl ?_
    refine V_iload_n eX5_addSight_35 1 rfl ?_
    refine V_ishl eX5_addSight_36 ?_
    refine V_ior eX5_addSight_37 ?_
    refine V_put (w' := wC G A (sF (sF c 6 ((c.1 6) + (1 : Int32))) 8 ((c.1 8) ||| ((1 : Int32) <<< (p1 &&& 31))))) eX5_addSight_38 inX5 tyX5 tyX5_ok nmX5 3 rfl rfl 7 (Nat.le_of_ble_eq_true rfl) tw_60 rfl rfl rfl rfl (Nat.le_of_ble_eq_true rfl) rfl ?_
    subst h
    exact V_vret eX5_addSight_41 rfl ⟨rfl, rfl⟩
  · replace h := (if_neg hb1).symm.trans h
    refine V_aload_n eX5_addSight_14 0 rfl ?_
    refine V_dup eX5_addSight_15 rfl ?_
    refine V_get (v := .int (c.1 7)) eX5_addSight_16 inX5 3 rfl rfl 6 (Nat.le_of_ble_eq_true rfl) tw_58 rfl ?_
    refine V_iconst (v := (1 : Int32)) eX5_addSight_19 rfl ?_
    refine V_iload_n eX5_addSight_20 1 rfl ?_
    refine V_ishl eX5_addSight_21 ?_
    refine V_ior eX5_addSight_22 ?_
    refine V_put (w' := wC G A (sF (sF c 6 ((c.1 6) + (1 : Int32))) 7 ((c.1 7) ||| ((1 : Int32) <<< (p1 &&& 31))))) eX5_addSight_23 inX5 tyX5 tyX5_ok nmX5 3 rfl rfl 6 (Nat.le_of_ble_eq_true rfl) tw_58 rfl rfl rfl rfl (Nat.le_of_ble_eq_true rfl) rfl ?_
    refine V_goto (tgt := 41) eX5_addSight_26 rfl ?_
    subst h
    exact V_vret eX5_addSight_41 rfl ⟨rfl, rfl⟩
