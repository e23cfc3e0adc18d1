theorem hdX6_seen : yX6_seen.cls ≠ "java/lang/invoke/MethodHandle" ∧ yX6_seen.cls ≠ "java/lang/invoke/VarHandle" ∧ (parseMethodDescriptor yX6_seen.desc).map (fun d => d.parameters.length) = some 2 := by decide +kernel
theorem eX6_seen_0 : Dc cX6_seen 0 (.aload_n 0) 1 1 := ⟨by decide +kernel, rfl⟩
theorem eX6_seen_1 : Dc cX6_seen 1 (.getfield 19) 3 4 := ⟨by decide +kernel, rfl⟩
theorem eX6_seen_4 : Dc cX6_seen 4 (.iload_n 1) 1 5 := ⟨by decide +kernel, rfl⟩
theorem eX6_seen_5 : Dc cX6_seen 5 (.invokevirtual 127) 3 8 := ⟨by decide +kernel, rfl⟩
theorem eX6_seen_8 : Dc cX6_seen 8 (.ifCond .ne 5) 3 11 := ⟨by decide +kernel, rfl⟩
theorem eX6_seen_11 : Dc cX6_seen 11 (.iconst (-1)) 1 12 := ⟨by decide +kernel, rfl⟩
theorem eX6_seen_12 : Dc cX6_seen 12 (.ireturn) 1 13 := ⟨by decide +kernel, rfl⟩
theorem eX6_seen_13 : Dc cX6_seen 13 (.iload_n 2) 1 14 := ⟨by decide +kernel, rfl⟩
theorem eX6_seen_14 : Dc cX6_seen 14 (.iconst 0) 1 15 := ⟨by decide +kernel, rfl⟩
theorem eX6_seen_15 : Dc cX6_seen 15 (.iconst 1) 1 16 := ⟨by decide +kernel, rfl⟩
theorem eX6_seen_16 : Dc cX6_seen 16 (.invokestatic 68) 3 19 := ⟨by decide +kernel, rfl⟩
theorem eX6_seen_19 : Dc cX6_seen 19 (.ifCond .ne 6) 3 22 := ⟨by decide +kernel, rfl⟩
theorem eX6_seen_22 : Dc cX6_seen 22 (.bipush (-2)) 2 24 := ⟨by decide +kernel, rfl⟩
theorem eX6_seen_24 : Dc cX6_seen 24 (.ireturn) 1 25 := ⟨by decide +kernel, rfl⟩
theorem eX6_seen_25 : Dc cX6_seen 25 (.aload_n 0) 1 26 := ⟨by decide +kernel, rfl⟩
theorem eX6_seen_26 : Dc cX6_seen 26 (.getfield 19) 3 29 := ⟨by decide +kernel, rfl⟩
theorem eX6_seen_29 : Dc cX6_seen 29 (.getfield 207) 3 32 := ⟨by decide +kernel, rfl⟩
theorem eX6_seen_32 : Dc cX6_seen 32 (.bipush 8) 2 34 := ⟨by decide +kernel, rfl⟩
theorem eX6_seen_34 : Dc cX6_seen 34 (.if_icmp .lt 6) 3 37 := ⟨by decide +kernel, rfl⟩
theorem eX6_seen_37 : Dc cX6_seen 37 (.bipush (-4)) 2 39 := ⟨by decide +kernel, rfl⟩
theorem eX6_seen_39 : Dc cX6_seen 39 (.ireturn) 1 40 := ⟨by decide +kernel, rfl⟩
theorem eX6_seen_40 : Dc cX6_seen 40 (.aload_n 0) 1 41 := ⟨by decide +kernel, rfl⟩
theorem eX6_seen_41 : Dc cX6_seen 41 (.getfield 19) 3 44 := ⟨by decide +kernel, rfl⟩
theorem eX6_seen_44 : Dc cX6_seen 44 (.iload_n 1) 1 45 := ⟨by decide +kernel, rfl⟩
theorem eX6_seen_45 : Dc cX6_seen 45 (.iload_n 2) 1 46 := ⟨by decide +kernel, rfl⟩
theorem eX6_seen_46 : Dc cX6_seen 46 (.iconst 1) 1 47 := ⟨by decide +kernel, rfl⟩
theorem eX6_seen_47 : Dc cX6_seen 47 (.if_icmp .ne 7) 3 50 := ⟨by decide +kernel, rfl⟩
theorem eX6_seen_50 : Dc cX6_seen 50 (.iconst 1) 1 51 := ⟨by decide +kernel, rfl⟩
theorem eX6_seen_51 : Dc cX6_seen 51 (.goto 4) 3 54 := ⟨by decide +kernel, rfl⟩
theorem eX6_seen_54 : Dc cX6_seen 54 (.iconst 0) 1 55 := ⟨by decide +kernel, rfl⟩
theorem eX6_seen_55 : Dc cX6_seen 55 (.invokevirtual 210) 3 58 := ⟨by decide +kernel, rfl⟩
theorem eX6_seen_58 : Dc cX6_seen 58 (.aload_n 0) 1 59 := ⟨by decide +kernel, rfl⟩
theorem eX6_seen_59 : Dc cX6_seen 59 (.getfield 19) 3 62 := ⟨by decide +kernel, rfl⟩
theorem eX6_seen_62 : Dc cX6_seen 62 (.getfield 207) 3 65 := ⟨by decide +kernel, rfl⟩
theorem eX6_seen_65 : Dc cX6_seen 65 (.ireturn) 1 66 := ⟨by decide +kernel, rfl⟩
def fX6_seen (c : SS) (p1 : Int32) (p2 : Int32) : Int32 × SS := if (fX5_isPerson c p1) = (0 : Int32) then ((-1 : Int32), c) else if (fX6_within p2 (0 : Int32) (1 : Int32)) = (0 : Int32) then ((-2 : Int32), c) else if (c.1 6) < (8 : Int32) then jn (fun (x4 : Int32) => (((fX5_addSight c p1 x4).1 6), (fX5_addSight c p1 x4))) (fun j55 => if p2 = (1 : Int32) then j55 (1 : Int32) else j55 (0 : Int32)) else ((-4 : Int32), c)
set_option maxRecDepth 20000 in
theorem ctX6_seen (l : Launch) (G : tg_G) (A : Nat → Nat) (c : SS) (p1 : Int32) (p2 : Int32) {z : Int32 × SS} (h : fX6_seen c p1 p2 = z) : Mt l G yX6_seen cX6_seen 3 (some .int) (tg_R 2 43) [.ref (A 0), .int p1, .int p2] (wC G A c) (fun v w1 => v = some (.int z.1) ∧ w1 = wC G A z.2) := by
  refine Mt_of2 (own := "TramGod") (nm := "seen") rfl rfl rfl (Nat.le_of_ble_eq_true rfl) (lv := [(0, .ref (A 0)), (1, .int p1), (2, .int p2)]) rfl ?_
  unfold fX6_seen at h
  refine V_aload_n eX6_seen_0 0 rfl ?_
  refine V_get (v := .ref (A 3)) eX6_seen_1 inX6 0 rfl rfl 1 (Nat.le_of_ble_eq_true rfl) tw_208 rfl ?_
  refine V_iload_n eX6_seen_4 1 rfl ?_
  refine V_callVi (rest := []) eX6_seen_5 (ctX5_isPerson l G A c p1 rfl) tc_311 tw_308 tw_3 tw_309 tw_310 3 rfl rfl hdX5_isPerson rfl ⟨Nat.le_of_ble_eq_true rfl, Nat.le_of_ble_eq_true rfl⟩ rfl (Nat.le_of_ble_eq_true rfl) ⟨Nat.zero_le _, Nat.zero_le _⟩ ?_
  refine V_if_ne (tgt := 13) eX6_seen_8 rfl (fun hb1 => ?_) (fun hb1 => ?_)
  · replace h := (if_neg hb1).symm.trans h
    refine V_iload_n eX6_seen_13 2 rfl ?_
    refine V_iconst (v := (0 : Int32)) eX6_seen_14 rfl ?_
    refine V_iconst (v := (1 : Int32)) eX6_seen_15 rfl ?_
    refine V_callSi (rest := []) eX6_seen_16 (ctX6_within l G _ p2 (0 : Int32) (1 : Int32) rfl) tc_241 tw_239 tw_1 tw_240 hdX6_within rfl ⟨Nat.le_of_ble_eq_true rfl, Nat.le_of_ble_eq_true rfl⟩ rfl (Nat.le_of_ble_eq_true rfl) ⟨Nat.zero_le _, Nat.zero_le _⟩ ?_
    refine V_if_ne (tgt := 25) eX6_seen_19 rfl (fun hb2 => ?_) (fun hb2 => ?_)
    · replace h := (if_neg hb2).symm.trans h
      refine V_aload_n eX6_seen_25 0 rfl ?_
      refine V_get (v := .ref (A 3)) eX6_seen_26 inX6 0 rfl rfl 1 (Nat.le_of_ble_eq_true rfl) tw_208 rfl ?_
      refine V_get (v := .int (c.1 6)) eX6_seen_29 inX5 3 rfl rfl 5 (Nat.le_of_ble_eq_true rfl) tw_57 rfl ?_
      refine V_bipush (v := (8 : Int32)) eX6_seen_32 rfl ?_
      refine V_icmp_lt (tgt := 40) eX6_seen_34 rfl (fun hb3 => ?_) (fun hb3 => ?_)
      · replace h := (if_pos hb3).symm.trans h
        refine V_aload_n eX6_seen_40 0 rfl ?_
        refine V_get (v := .ref (A 3)) eX6_seen_41 inX6 0 rfl rfl 1 (Nat.le_of_ble_eq_true rfl) tw_208 rfl ?_
        refine V_iload_n eX6_seen_44 1 rfl ?_
        refine V_iload_n eX6_seen_45 2 rfl ?_
        refine V_iconst (v := (1 : Int32)) eX6_seen_46 rfl ?_
        refine jn_elim h (fun j => ∀ (x4 : Int32), j x4 = z → V l G (tg_Zm G (fun v w1 => v = some (.int z.1) ∧ w1 = wC G A z.2) 0 0) tg_E0 (tg_R 2 43) "TramGod" "seen" cX6_seen 3 (some .int) 55 [(0, .ref (A 0))] [.int x4, .int p1, .ref (A 3)] (wC G A c) 0 0) ?_ (fun j55 hj55 h => ?_)
        · intro x4 h
          refine V_callVv (rest := []) eX6_seen_55 (ctX5_addSight l G A c p1 x4 rfl) tc_564 tw_561 tw_3 tw_562 tw_563 3 rfl rfl hdX5_addSight rfl ⟨Nat.le_of_ble_eq_true rfl, Nat.le_of_ble_eq_true rfl⟩ rfl (Nat.le_of_ble_eq_true rfl) ⟨Nat.zero_le _, Nat.zero_le _⟩ ?_
          refine V_aload_n eX6_seen_58 0 rfl ?_
          refine V_get (v := .ref (A 3)) eX6_seen_59 inX6 0 rfl rfl 1 (Nat.le_of_ble_eq_true rfl) tw_208 rfl ?_
          refine V_get (v := .int ((fX5_addSight c p1 x4).1 6)) eX6_seen_62 inX5 3 rfl rfl 5 (Nat.le_of_ble_eq_true rfl) tw_57 rfl ?_
          subst h
          exact V_ret eX6_seen_65 rfl ⟨rfl, rfl⟩
        refine V_icmp_ne (tgt := 54) eX6_seen_47 rfl (fun hb5 => ?_) (fun hb5 => ?_)
        · replace h := (if_neg hb5).symm.trans h
          refine V_iconst (v := (0 : Int32)) eX6_seen_54 rfl ?_
          refine V_lv (lv' := [(0, .ref (A 0))]) [0] rfl ?_
          exact hj55 (0 : Int32) h
        · replace h := (if_pos hb5).symm.trans h
          refine V_iconst (v := (1 : Int32)) eX6_seen_50 rfl ?_
          refine V_goto (tgt := 55) eX6_seen_51 rfl ?_
          refine V_lv (lv' := [(0, .ref (A 0))]) [0] rfl ?_
          exact hj55 (1 : Int32) h
      · replace h := (if_neg hb3).symm.trans h
        refine V_bipush (v := (-4 : Int32)) eX6_seen_37 rfl ?_
        subst h
        exact V_ret eX6_seen_39 rfl ⟨rfl, rfl⟩
    · replace h := (if_pos hb2).symm.trans h
      refine V_bipush (v := (-2 : Int32)) eX6_seen_22 rfl ?_
      subst h
      exact V_ret eX6_seen_24 rfl ⟨rfl, rfl⟩
  · replace h := (if_pos hb1).symm.trans h
    refine V_iconst (v := (-1 : Int32)) eX6_seen_11 rfl ?_
    subst h
    exact V_ret eX6_seen_12 rfl ⟨rfl, rfl⟩
theorem hdX6_forget : yX6_forget.cls ≠ "java/lang/invoke/MethodHandle" ∧ yX6_forget.cls ≠ "java/lang/invoke/VarHandle" ∧ (parseMethodDescriptor yX6_forget.desc).map (fun d => d.parameters.length) = some 0 := by decide +kernel
theorem eX6_forget_0 : Dc cX6_forget 0 (.aload_n 0) 1 1 := ⟨by decide +kernel, rfl⟩
theorem eX6_forget_1 : Dc cX6_forget 1 (.getfield 19) 3 4 := ⟨by decide +kernel, rfl⟩
theorem eX6_forget_4 : Dc cX6_forget 4 (.getfield 207) 3 7 := ⟨by decide +kernel, rfl⟩
theorem eX6_forget_7 : Dc cX6_forget 7 (.istore_n 1) 1 8 := ⟨by decide +kernel, rfl⟩
theorem eX6_forget_8 : Dc cX6_forget 8 (.aload_n 0) 1 9 := ⟨by decide +kernel, rfl⟩
theorem eX6_forget_9 : Dc cX6_forget 9 (.getfield 19) 3 12 := ⟨by decide +kernel, rfl⟩
theorem eX6_forget_12 : Dc cX6_forget 12 (.invokevirtual 214) 3 15 := ⟨by decide +kernel, rfl⟩
theorem eX6_forget_15 : Dc cX6_forget 15 (.iload_n 1) 1 16 := ⟨by decide +kernel, rfl⟩
theorem eX6_forget_16 : Dc cX6_forget 16 (.ireturn) 1 17 := ⟨by decide +kernel, rfl⟩
def fX6_forget (c : SS)  : Int32 × SS := ((c.1 6), (fX5_clearSights c))
set_option maxRecDepth 20000 in
theorem ctX6_forget (l : Launch) (G : tg_G) (A : Nat → Nat) (c : SS)  {z : Int32 × SS} (h : fX6_forget c  = z) : Mt l G yX6_forget cX6_forget 2 (some .int) (tg_R 1 20) [.ref (A 0)] (wC G A c) (fun v w1 => v = some (.int z.1) ∧ w1 = wC G A z.2) := by
  refine Mt_of2 (own := "TramGod") (nm := "forget") rfl rfl rfl (Nat.le_of_ble_eq_true rfl) (lv := [(0, .ref (A 0))]) rfl ?_
  unfold fX6_forget at h
  refine V_aload_n eX6_forget_0 0 rfl ?_
  refine V_get (v := .ref (A 3)) eX6_forget_1 inX6 0 rfl rfl 1 (Nat.le_of_ble_eq_true rfl) tw_208 rfl ?_
  refine V_get (v := .int (c.1 6)) eX6_forget_4 inX5 3 rfl rfl 5 (Nat.le_of_ble_eq_true rfl) tw_57 rfl ?_
  refine V_istore_n (lv' := [(1, .int (c.1 6)), (0, .ref (A 0))]) eX6_forget_7 (Nat.le_of_ble_eq_true rfl) rfl ?_
  refine V_aload_n eX6_forget_8 1 rfl ?_
  refine V_get (v := .ref (A 3)) eX6_forget_9 inX6 0 rfl rfl 1 (Nat.le_of_ble_eq_true rfl) tw_208 rfl ?_
  refine V_callVv (rest := []) eX6_forget_12 (ctX5_clearSights l G A c rfl) tc_281 tw_569 tw_3 tw_279 tw_280 3 rfl rfl hdX5_clearSights rfl ⟨Nat.le_of_ble_eq_true rfl, Nat.le_of_ble_eq_true rfl⟩ rfl (Nat.le_of_ble_eq_true rfl) ⟨Nat.zero_le _, Nat.zero_le _⟩ ?_
  refine V_iload_n eX6_forget_15 0 rfl ?_
  subst h
  exact V_ret eX6_forget_16 rfl ⟨rfl, rfl⟩
theorem hdX2_countHolds : yX2_countHolds.cls ≠ "java/lang/invoke/MethodHandle" ∧ yX2_countHolds.cls ≠ "java/lang/invoke/VarHandle" ∧ (parseMethodDescriptor yX2_countHolds.desc).map (fun d => d.parameters.length) = some 1 := by decide +kernel
theorem eX2_countHolds_0 : Dc cX2_countHolds 0 (.aload_n 0) 1 1 := ⟨by decide +kernel, rfl⟩
theorem eX2_countHolds_1 : Dc cX2_countHolds 1 (.aload_n 0) 1 2 := ⟨by decide +kernel, rfl⟩
theorem eX2_countHolds_2 : Dc cX2_countHolds 2 (.getfield 24) 3 5 := ⟨by decide +kernel, rfl⟩
theorem eX2_countHolds_5 : Dc cX2_countHolds 5 (.getfield 52) 3 8 := ⟨by decide +kernel, rfl⟩
theorem eX2_countHolds_8 : Dc cX2_countHolds 8 (.iconst 1) 1 9 := ⟨by decide +kernel, rfl⟩
theorem eX2_countHolds_9 : Dc cX2_countHolds 9 (.invokevirtual 56) 3 12 := ⟨by decide +kernel, rfl⟩
theorem eX2_countHolds_12 : Dc cX2_countHolds 12 (.aload_n 0) 1 13 := ⟨by decide +kernel, rfl⟩
theorem eX2_countHolds_13 : Dc cX2_countHolds 13 (.getfield 24) 3 16 := ⟨by decide +kernel, rfl⟩
theorem eX2_countHolds_16 : Dc cX2_countHolds 16 (.getfield 52) 3 19 := ⟨by decide +kernel, rfl⟩
theorem eX2_countHolds_19 : Dc cX2_countHolds 19 (.iconst 1) 1 20 := ⟨by decide +kernel, rfl⟩
theorem eX2_countHolds_20 : Dc cX2_countHolds 20 (.isub) 1 21 := ⟨by decide +kernel, rfl⟩
theorem eX2_countHolds_21 : Dc cX2_countHolds 21 (.istore_n 2) 1 22 := ⟨by decide +kernel, rfl⟩
theorem eX2_countHolds_22 : Dc cX2_countHolds 22 (.iload_n 2) 1 23 := ⟨by decide +kernel, rfl⟩
theorem eX2_countHolds_23 : Dc cX2_countHolds 23 (.ifCond .lt 112) 3 26 := ⟨by decide +kernel, rfl⟩
theorem eX2_countHolds_26 : Dc cX2_countHolds 26 (.iconst 0) 1 27 := ⟨by decide +kernel, rfl⟩
theorem eX2_countHolds_27 : Dc cX2_countHolds 27 (.istore_n 3) 1 28 := ⟨by decide +kernel, rfl⟩
theorem eX2_countHolds_28 : Dc cX2_countHolds 28 (.iload_n 3) 1 29 := ⟨by decide +kernel, rfl⟩
theorem eX2_countHolds_29 : Dc cX2_countHolds 29 (.iload_n 1) 1 30 := ⟨by decide +kernel, rfl⟩
theorem eX2_countHolds_30 : Dc cX2_countHolds 30 (.if_icmp .gt 99) 3 33 := ⟨by decide +kernel, rfl⟩
theorem eX2_countHolds_33 : Dc cX2_countHolds 33 (.iload_n 3) 1 34 := ⟨by decide +kernel, rfl⟩
theorem eX2_countHolds_34 : Dc cX2_countHolds 34 (.bipush 11) 2 36 := ⟨by decide +kernel, rfl⟩
theorem eX2_countHolds_36 : Dc cX2_countHolds 36 (.if_icmp .ge 93) 3 39 := ⟨by decide +kernel, rfl⟩
theorem eX2_countHolds_39 : Dc cX2_countHolds 39 (.aload_n 0) 1 40 := ⟨by decide +kernel, rfl⟩
theorem eX2_countHolds_40 : Dc cX2_countHolds 40 (.getfield 24) 3 43 := ⟨by decide +kernel, rfl⟩
theorem eX2_countHolds_43 : Dc cX2_countHolds 43 (.iload_n 2) 1 44 := ⟨by decide +kernel, rfl⟩
theorem eX2_countHolds_44 : Dc cX2_countHolds 44 (.iload_n 1) 1 45 := ⟨by decide +kernel, rfl⟩
theorem eX2_countHolds_45 : Dc cX2_countHolds 45 (.iload_n 3) 1 46 := ⟨by decide +kernel, rfl⟩
theorem eX2_countHolds_46 : Dc cX2_countHolds 46 (.isub) 1 47 := ⟨by decide +kernel, rfl⟩
theorem eX2_countHolds_47 : Dc cX2_countHolds 47 (.invokevirtual 64) 3 50 := ⟨by decide +kernel, rfl⟩
theorem eX2_countHolds_50 : Dc cX2_countHolds 50 (.istore 4) 2 52 := ⟨by decide +kernel, rfl⟩
theorem eX2_countHolds_52 : Dc cX2_countHolds 52 (.iload_n 2) 1 53 := ⟨by decide +kernel, rfl⟩
theorem eX2_countHolds_53 : Dc cX2_countHolds 53 (.bipush 11) 2 55 := ⟨by decide +kernel, rfl⟩
theorem eX2_countHolds_55 : Dc cX2_countHolds 55 (.imul) 1 56 := ⟨by decide +kernel, rfl⟩
theorem eX2_countHolds_56 : Dc cX2_countHolds 56 (.iload_n 3) 1 57 := ⟨by decide +kernel, rfl⟩
theorem eX2_countHolds_57 : Dc cX2_countHolds 57 (.iadd) 1 58 := ⟨by decide +kernel, rfl⟩
theorem eX2_countHolds_58 : Dc cX2_countHolds 58 (.istore 5) 2 60 := ⟨by decide +kernel, rfl⟩
theorem eX2_countHolds_60 : Dc cX2_countHolds 60 (.iconst 0) 1 61 := ⟨by decide +kernel, rfl⟩
theorem eX2_countHolds_61 : Dc cX2_countHolds 61 (.istore 6) 2 63 := ⟨by decide +kernel, rfl⟩
theorem eX2_countHolds_63 : Dc cX2_countHolds 63 (.iconst 0) 1 64 := ⟨by decide +kernel, rfl⟩
theorem eX2_countHolds_64 : Dc cX2_countHolds 64 (.istore 7) 2 66 := ⟨by decide +kernel, rfl⟩
theorem eX2_countHolds_66 : Dc cX2_countHolds 66 (.iload 7) 2 68 := ⟨by decide +kernel, rfl⟩
theorem eX2_countHolds_68 : Dc cX2_countHolds 68 (.iload 4) 2 70 := ⟨by decide +kernel, rfl⟩
theorem eX2_countHolds_70 : Dc cX2_countHolds 70 (.if_icmp .gt 44) 3 73 := ⟨by decide +kernel, rfl⟩
theorem eX2_countHolds_73 : Dc cX2_countHolds 73 (.iload 6) 2 75 := ⟨by decide +kernel, rfl⟩
theorem eX2_countHolds_75 : Dc cX2_countHolds 75 (.aload_n 0) 1 76 := ⟨by decide +kernel, rfl⟩
theorem eX2_countHolds_76 : Dc cX2_countHolds 76 (.getfield 9) 3 79 := ⟨by decide +kernel, rfl⟩
theorem eX2_countHolds_79 : Dc cX2_countHolds 79 (.iload 5) 2 81 := ⟨by decide +kernel, rfl⟩
theorem eX2_countHolds_81 : Dc cX2_countHolds 81 (.iload 7) 2 83 := ⟨by decide +kernel, rfl⟩
theorem eX2_countHolds_83 : Dc cX2_countHolds 83 (.iadd) 1 84 := ⟨by decide +kernel, rfl⟩
theorem eX2_countHolds_84 : Dc cX2_countHolds 84 (.iaload) 1 85 := ⟨by decide +kernel, rfl⟩
theorem eX2_countHolds_85 : Dc cX2_countHolds 85 (.ifCond .ne 19) 3 88 := ⟨by decide +kernel, rfl⟩
theorem eX2_countHolds_88 : Dc cX2_countHolds 88 (.aload_n 0) 1 89 := ⟨by decide +kernel, rfl⟩
theorem eX2_countHolds_89 : Dc cX2_countHolds 89 (.getfield 18) 3 92 := ⟨by decide +kernel, rfl⟩
theorem eX2_countHolds_92 : Dc cX2_countHolds 92 (.iload 5) 2 94 := ⟨by decide +kernel, rfl⟩
theorem eX2_countHolds_94 : Dc cX2_countHolds 94 (.bipush 11) 2 96 := ⟨by decide +kernel, rfl⟩
theorem eX2_countHolds_96 : Dc cX2_countHolds 96 (.iadd) 1 97 := ⟨by decide +kernel, rfl⟩
theorem eX2_countHolds_97 : Dc cX2_countHolds 97 (.iload 7) 2 99 := ⟨by decide +kernel, rfl⟩
theorem eX2_countHolds_99 : Dc cX2_countHolds 99 (.iadd) 1 100 := ⟨by decide +kernel, rfl⟩
theorem eX2_countHolds_100 : Dc cX2_countHolds 100 (.iaload) 1 101 := ⟨by decide +kernel, rfl⟩
theorem eX2_countHolds_101 : Dc cX2_countHolds 101 (.goto 4) 3 104 := ⟨by decide +kernel, rfl⟩
theorem eX2_countHolds_104 : Dc cX2_countHolds 104 (.iconst 0) 1 105 := ⟨by decide +kernel, rfl⟩
theorem eX2_countHolds_105 : Dc cX2_countHolds 105 (.iadd) 1 106 := ⟨by decide +kernel, rfl⟩
theorem eX2_countHolds_106 : Dc cX2_countHolds 106 (.istore 6) 2 108 := ⟨by decide +kernel, rfl⟩
theorem eX2_countHolds_108 : Dc cX2_countHolds 108 (.iinc 7 1) 3 111 := ⟨by decide +kernel, rfl⟩
theorem eX2_countHolds_111 : Dc cX2_countHolds 111 (.goto (-45)) 3 114 := ⟨by decide +kernel, rfl⟩
theorem eX2_countHolds_114 : Dc cX2_countHolds 114 (.aload_n 0) 1 115 := ⟨by decide +kernel, rfl⟩
theorem eX2_countHolds_115 : Dc cX2_countHolds 115 (.getfield 18) 3 118 := ⟨by decide +kernel, rfl⟩
theorem eX2_countHolds_118 : Dc cX2_countHolds 118 (.iload 5) 2 120 := ⟨by decide +kernel, rfl⟩
theorem eX2_countHolds_120 : Dc cX2_countHolds 120 (.iload 6) 2 122 := ⟨by decide +kernel, rfl⟩
theorem eX2_countHolds_122 : Dc cX2_countHolds 122 (.iastore) 1 123 := ⟨by decide +kernel, rfl⟩
theorem eX2_countHolds_123 : Dc cX2_countHolds 123 (.iinc 3 1) 3 126 := ⟨by decide +kernel, rfl⟩
theorem eX2_countHolds_126 : Dc cX2_countHolds 126 (.goto (-98)) 3 129 := ⟨by decide +kernel, rfl⟩
theorem eX2_countHolds_129 : Dc cX2_countHolds 129 (.iinc 2 (-1)) 3 132 := ⟨by decide +kernel, rfl⟩
theorem eX2_countHolds_132 : Dc cX2_countHolds 132 (.goto (-110)) 3 135 := ⟨by decide +kernel, rfl⟩
theorem eX2_countHolds_135 : Dc cX2_countHolds 135 (.aload_n 0) 1 136 := ⟨by decide +kernel, rfl⟩
theorem eX2_countHolds_136 : Dc cX2_countHolds 136 (.getfield 18) 3 139 := ⟨by decide +kernel, rfl⟩
theorem eX2_countHolds_139 : Dc cX2_countHolds 139 (.iconst 0) 1 140 := ⟨by decide +kernel, rfl⟩
theorem eX2_countHolds_140 : Dc cX2_countHolds 140 (.iaload) 1 141 := ⟨by decide +kernel, rfl⟩
theorem eX2_countHolds_141 : Dc cX2_countHolds 141 (.ireturn) 1 142 := ⟨by decide +kernel, rfl⟩
def fX2_countHolds_L66 (k : Int32 → Option (Int32 × SS)) (c : SS) (a1 : Int32) (a2 : Int32) (a3 : Int32) (a4 : Int32) (a5 : Int32) : Nat → Int32 → Int32 → Option (Int32 × SS)
  | 0, _, _ => none
  | n + 1, a6, a7 => if a4 < a7 then k a6 else ald 66 (c.2 9) (a5 + a7) (fun v6 => jn (fun (x7 : Int32) => fX2_countHolds_L66 k c a1 a2 a3 a4 a5 n (a6 + x7) (a7 + (1 : Int32))) (fun j105 => if v6 = (0 : Int32) then ald 77 (c.2 11) ((a5 + (11 : Int32)) + a7) (fun v9 => j105 v9) else j105 (0 : Int32)))
def fX2_countHolds_L28 (k : SS → Option (Int32 × SS)) (a1 : Int32) (a2 : Int32) : Nat → Int32 → SS → Option (Int32 × SS)
  | 0, _, _ => none
  | n + 1, a3, c => if a1 < a3 then k c else if (11 : Int32) ≤ a3 then k c else fX2_countHolds_L66 (fun (x10 : Int32) => ckb 77 ((a2 * (11 : Int32)) + a3) (fX2_countHolds_L28 k a1 a2 n (a3 + (1 : Int32)) (sA c 11 (((a2 * (11 : Int32)) + a3)).toNatClampNeg x10))) c a1 a2 a3 (fX5_mayHold c a2 (a1 - a3)) ((a2 * (11 : Int32)) + a3) fu (0 : Int32) (0 : Int32)
def fX2_countHolds_L22 (k : SS → Option (Int32 × SS)) (a1 : Int32) : Nat → Int32 → SS → Option (Int32 × SS)
  | 0, _, _ => none
  | n + 1, a2, c => if a2 < (0 : Int32) then k c else fX2_countHolds_L28 (fun (c12 : SS) => fX2_countHolds_L22 k a1 n (a2 + (-1 : Int32)) c12) a1 a2 fu (0 : Int32) c
def fX2_countHolds (c : SS) (p1 : Int32) : Option (Int32 × SS) := Option.bind (fX2_startRow c (c.1 1) (1 : Int32)) (fun q1 => fX2_countHolds_L22 (fun (c13 : SS) => ald 77 (c13.2 11) (0 : Int32) (fun v14 => some (v14, c13))) p1 fu ((q1.1 1) - (1 : Int32)) q1)
set_option maxRecDepth 20000 in
theorem ctX2_countHolds_L66 (l : Launch) (G : tg_G) (A : Nat → Nat) (k : Int32 → Option (Int32 × SS)) (c : SS) (a1 : Int32) (a2 : Int32) (a3 : Int32) (a4 : Int32) (a5 : Int32) {z : Int32 × SS} (hk : ∀ (e6 : Int32), k e6 = some z → V l G (tg_Zm G (fun v w1 => v = some (.int z.1) ∧ w1 = wC G A z.2) 0 0) tg_E0 (tg_R 2 43) "TramGod$Planner" "countHolds" cX2_countHolds 8 (some .int) 114 [(0, .ref (A 13)), (1, .int a1), (2, .int a2), (3, .int a3), (5, .int a5), (6, .int e6)] [] (wC G A c) 0 0) : ∀ (n : Nat) (a6 : Int32) (a7 : Int32), fX2_countHolds_L66 k c a1 a2 a3 a4 a5 n a6 a7 = some z → V l G (tg_Zm G (fun v w1 => v = some (.int z.1) ∧ w1 = wC G A z.2) 0 0) tg_E0 (tg_R 2 43) "TramGod$Planner" "countHolds" cX2_countHolds 8 (some .int) 66 [(0, .ref (A 13)), (1, .int a1), (2, .int a2), (3, .int a3), (4, .int a4), (5, .int a5), (6, .int a6), (7, .int a7)] [] (wC G A c) 0 0 := by
  intro n
  induction n with
  | zero => intro a6 a7 h; exact absurd h (by simp [fX2_countHolds_L66])
  | succ n ih =>
    intro a6 a7 h
    unfold fX2_countHolds_L66 at h
    refine V_iload eX2_countHolds_66 7 rfl ?_
    refine V_iload eX2_countHolds_68 4 rfl ?_
    refine V_icmp_gt (tgt := 114) eX2_countHolds_70 rfl (fun hb5 => ?_) (fun hb5 => ?_)
    · replace h := (if_pos hb5).symm.trans h
      refine V_lv (lv' := [(0, .ref (A 13)), (1, .int a1), (2, .int a2), (3, .int a3), (5, .int a5), (6, .int a6)]) [0, 1, 2, 3, 5, 6] rfl ?_
      exact hk a6 h
    · replace h := (if_neg hb5).symm.trans h
      refine V_iload eX2_countHolds_73 6 rfl ?_
      refine V_aload_n eX2_countHolds_75 0 rfl ?_
      refine V_get (v := .ref (A 14)) eX2_countHolds_76 inX2 13 rfl rfl 2 (Nat.le_of_ble_eq_true rfl) tw_135 rfl ?_
      refine V_iload eX2_countHolds_79 5 rfl ?_
      refine V_iload eX2_countHolds_81 7 rfl ?_
      refine V_iadd eX2_countHolds_83 ?_
      obtain ⟨v6, hi6, ev6, h⟩ := ald_some h
      refine V_ialdv eX2_countHolds_84 14 rfl hi6 ev6 ?_
      refine jn_elim h (fun j => ∀ (x7 : Int32), j x7 = some z → V l G (tg_Zm G (fun v w1 => v = some (.int z.1) ∧ w1 = wC G A z.2) 0 0) tg_E0 (tg_R 2 43) "TramGod$Planner" "countHolds" cX2_countHolds 8 (some .int) 105 [(0, .ref (A 13)), (1, .int a1), (2, .int a2), (3, .int a3), (4, .int a4), (5, .int a5), (7, .int a7)] [.int x7, .int a6] (wC G A c) 0 0) ?_ (fun j105 hj105 h => ?_)
      · intro x7 h
        refine V_iadd eX2_countHolds_105 ?_
        refine V_istore (lv' := [(6, .int (a6 + x7)), (0, .ref (A 13)), (1, .int a1), (2, .int a2), (3, .int a3), (4, .int a4), (5, .int a5), (7, .int a7)]) eX2_countHolds_106 (Nat.le_of_ble_eq_true rfl) rfl ?_
        refine V_iinc (v := (a7 + (1 : Int32))) (lv' := [(7, .int (a7 + (1 : Int32))), (6, .int (a6 + x7)), (0, .ref (A 13)), (1, .int a1), (2, .int a2), (3, .int a3), (4, .int a4), (5, .int a5)]) eX2_countHolds_108 7 rfl rfl (Nat.le_of_ble_eq_true rfl) rfl ?_
        refine V_goto (tgt := 66) eX2_countHolds_111 rfl ?_
        refine V_lv (lv' := [(0, .ref (A 13)), (1, .int a1), (2, .int a2), (3, .int a3), (4, .int a4), (5, .int a5), (6, .int (a6 + x7)), (7, .int (a7 + (1 : Int32)))]) [2, 3, 4, 5, 6, 7, 1, 0] rfl ?_
        exact ih (a6 + x7) (a7 + (1 : Int32)) h
      refine V_if_ne (tgt := 104) eX2_countHolds_85 rfl (fun hb8 => ?_) (fun hb8 => ?_)
      · replace h := (if_neg hb8).symm.trans h
        refine V_iconst (v := (0 : Int32)) eX2_countHolds_104 rfl ?_
        refine V_lv (lv' := [(0, .ref (A 13)), (1, .int a1), (2, .int a2), (3, .int a3), (4, .int a4), (5, .int a5), (7, .int a7)]) [0, 1, 2, 3, 4, 5, 7] rfl ?_
        exact hj105 (0 : Int32) h
      · replace h := (if_pos hb8).symm.trans h
        refine V_aload_n eX2_countHolds_88 0 rfl ?_
        refine V_get (v := .ref (A 16)) eX2_countHolds_89 inX2 13 rfl rfl 4 (Nat.le_of_ble_eq_true rfl) tw_138 rfl ?_
        refine V_iload eX2_countHolds_92 5 rfl ?_
        refine V_bipush (v := (11 : Int32)) eX2_countHolds_94 rfl ?_
        refine V_iadd eX2_countHolds_96 ?_
        refine V_iload eX2_countHolds_97 7 rfl ?_
        refine V_iadd eX2_countHolds_99 ?_
        obtain ⟨v9, hi9, ev9, h⟩ := ald_some h
        refine V_ialdv eX2_countHolds_100 16 rfl hi9 ev9 ?_
        refine V_goto (tgt := 105) eX2_countHolds_101 rfl ?_
        refine V_lv (lv' := [(0, .ref (A 13)), (1, .int a1), (2, .int a2), (3, .int a3), (4, .int a4), (5, .int a5), (7, .int a7)]) [0, 1, 2, 3, 4, 5, 7] rfl ?_
        exact hj105 v9 h
set_option maxRecDepth 20000 in
theorem ctX2_countHolds_L28 (l : Launch) (G : tg_G) (A : Nat → Nat) (k : SS → Option (Int32 × SS)) (a1 : Int32) (a2 : Int32) {z : Int32 × SS} (hk : ∀ (ec : SS), k ec = some z → V l G (tg_Zm G (fun v w1 => v = some (.int z.1) ∧ w1 = wC G A z.2) 0 0) tg_E0 (tg_R 2 43) "TramGod$Planner" "countHolds" cX2_countHolds 8 (some .int) 129 [(0, .ref (A 13)), (1, .int a1), (2, .int a2)] [] (wC G A ec) 0 0) : ∀ (n : Nat) (a3 : Int32) (c : SS), fX2_countHolds_L28 k a1 a2 n a3 c = some z → V l G (tg_Zm G (fun v w1 => v = some (.int z.1) ∧ w1 = wC G A z.2) 0 0) tg_E0 (tg_R 2 43) "TramGod$Planner" "countHolds" cX2_countHolds 8 (some .int) 28 [(0, .ref (A 13)), (1, .int a1), (2, .int a2), (3, .int a3)] [] (wC G A c) 0 0 := by
  intro n
  induction n with
  | zero => intro a3 c h; exact absurd h (by simp [fX2_countHolds_L28])
  | succ n ih =>
    intro a3 c h
    unfold fX2_countHolds_L28 at h
    refine V_iload_n eX2_countHolds_28 3 rfl ?_
    refine V_iload_n eX2_countHolds_29 1 rfl ?_
    refine V_icmp_gt (tgt := 129) eX2_countHolds_30 rfl (fun hb3 => ?_) (fun hb3 => ?_)
    · replace h := (if_pos hb3).symm.trans h
      refine V_lv (lv' := [(0, .ref (A 13)), (1, .int a1), (2, .int a2)]) [0, 1, 2] rfl ?_
      exact hk c h
    · replace h := (if_neg hb3).symm.trans h
      refine V_iload_n eX2_countHolds_33 3 rfl ?_
      refine V_bipush (v := (11 : Int32)) eX2_countHolds_34 rfl ?_
      refine V_icmp_ge (tgt := 129) eX2_countHolds_36 rfl (fun hb4 => ?_) (fun hb4 => ?_)
      · replace h := (if_pos hb4).symm.trans h
        refine V_lv (lv' := [(0, .ref (A 13)), (1, .int a1), (2, .int a2)]) [0, 1, 2] rfl ?_
        exact hk c h
      · replace h := (if_neg hb4).symm.trans h
        refine V_aload_n eX2_countHolds_39 0 rfl ?_
        refine V_get (v := .ref (A 3)) eX2_countHolds_40 inX2 13 rfl rfl 0 (Nat.le_of_ble_eq_true rfl) tw_133 rfl ?_
        refine V_iload_n eX2_countHolds_43 2 rfl ?_
        refine V_iload_n eX2_countHolds_44 1 rfl ?_
        refine V_iload_n eX2_countHolds_45 3 rfl ?_
        refine V_isub eX2_countHolds_46 ?_
        refine V_callVi (rest := []) eX2_countHolds_47 (ctX5_mayHold l G A c a2 (a1 - a3) rfl) tc_438 tw_435 tw_3 tw_436 tw_437 3 rfl rfl hdX5_mayHold rfl ⟨Nat.le_of_ble_eq_true rfl, Nat.le_of_ble_eq_true rfl⟩ rfl (Nat.le_of_ble_eq_true rfl) ⟨Nat.zero_le _, Nat.zero_le _⟩ ?_
        refine V_istore (lv' := [(4, .int (fX5_mayHold c a2 (a1 - a3))), (0, .ref (A 13)), (1, .int a1), (2, .int a2), (3, .int a3)]) eX2_countHolds_50 (Nat.le_of_ble_eq_true rfl) rfl ?_
        refine V_iload_n eX2_countHolds_52 3 rfl ?_
        refine V_bipush (v := (11 : Int32)) eX2_countHolds_53 rfl ?_
        refine V_imul eX2_countHolds_55 ?_
        refine V_iload_n eX2_countHolds_56 4 rfl ?_
        refine V_iadd eX2_countHolds_57 ?_
        refine V_istore (lv' := [(5, .int ((a2 * (11 : Int32)) + a3)), (4, .int (fX5_mayHold c a2 (a1 - a3))), (0, .ref (A 13)), (1, .int a1), (2, .int a2), (3, .int a3)]) eX2_countHolds_58 (Nat.le_of_ble_eq_true rfl) rfl ?_
        refine V_iconst (v := (0 : Int32)) eX2_countHolds_60 rfl ?_
        refine V_istore (lv' := [(6, .int (0 : Int32)), (5, .int ((a2 * (11 : Int32)) + a3)), (4, .int (fX5_mayHold c a2 (a1 - a3))), (0, .ref (A 13)), (1, .int a1), (2, .int a2), (3, .int a3)]) eX2_countHolds_61 (Nat.le_of_ble_eq_true rfl) rfl ?_
        refine V_iconst (v := (0 : Int32)) eX2_countHolds_63 rfl ?_
        refine V_istore (lv' := [(7, .int (0 : Int32)), (6, .int (0 : Int32)), (5, .int ((a2 * (11 : Int32)) + a3)), (4, .int (fX5_mayHold c a2 (a1 - a3))), (0, .ref (A 13)), (1, .int a1), (2, .int a2), (3, .int a3)]) eX2_countHolds_64 (Nat.le_of_ble_eq_true rfl) rfl ?_
        refine V_lv (lv' := [(0, .ref (A 13)), (1, .int a1), (2, .int a2), (3, .int a3), (4, .int (fX5_mayHold c a2 (a1 - a3))), (5, .int ((a2 * (11 : Int32)) + a3)), (6, .int (0 : Int32)), (7, .int (0 : Int32))]) [4, 5, 6, 7, 3, 2, 1, 0] rfl ?_
        refine ctX2_countHolds_L66 l G A _ c a1 a2 a3 (fX5_mayHold c a2 (a1 - a3)) ((a2 * (11 : Int32)) + a3) ?_ fu (0 : Int32) (0 : Int32) h
        · intro x10 h
          refine V_aload_n eX2_countHolds_114 0 rfl ?_
          refine V_get (v := .ref (A 16)) eX2_countHolds_115 inX2 13 rfl rfl 4 (Nat.le_of_ble_eq_true rfl) tw_138 rfl ?_
          refine V_iload eX2_countHolds_118 4 rfl ?_
          refine V_iload eX2_countHolds_120 5 rfl ?_
          obtain ⟨hi11, h⟩ := ckb_some h
          refine V_iast (w' := wC G A (sA c 11 (((a2 * (11 : Int32)) + a3)).toNatClampNeg x10)) eX2_countHolds_122 16 rfl hi11 rfl ?_
          refine V_iinc (v := (a3 + (1 : Int32))) (lv' := [(3, .int (a3 + (1 : Int32))), (0, .ref (A 13)), (1, .int a1), (2, .int a2), (5, .int ((a2 * (11 : Int32)) + a3)), (6, .int x10)]) eX2_countHolds_123 3 rfl rfl (Nat.le_of_ble_eq_true rfl) rfl ?_
          refine V_goto (tgt := 28) eX2_countHolds_126 rfl ?_
          refine V_lv (lv' := [(0, .ref (A 13)), (1, .int a1), (2, .int a2), (3, .int (a3 + (1 : Int32)))]) [1, 2, 3, 0] rfl ?_
          exact ih (a3 + (1 : Int32)) (sA c 11 (((a2 * (11 : Int32)) + a3)).toNatClampNeg x10) h
set_option maxRecDepth 20000 in
theorem ctX2_countHolds_L22 (l : Launch) (G : tg_G) (A : Nat → Nat) (k : SS → Option (Int32 × SS)) (a1 : Int32) {z : Int32 × SS} (hk : ∀ (ec : SS), k ec = some z → V l G (tg_Zm G (fun v w1 => v = some (.int z.1) ∧ w1 = wC G A z.2) 0 0) tg_E0 (tg_R 2 43) "TramGod$Planner" "countHolds" cX2_countHolds 8 (some .int) 135 [(0, .ref (A 13))] [] (wC G A ec) 0 0) : ∀ (n : Nat) (a2 : Int32) (c : SS), fX2_countHolds_L22 k a1 n a2 c = some z → V l G (tg_Zm G (fun v w1 => v = some (.int z.1) ∧ w1 = wC G A z.2) 0 0) tg_E0 (tg_R 2 43) "TramGod$Planner" "countHolds" cX2_countHolds 8 (some .int) 22 [(0, .ref (A 13)), (1, .int a1), (2, .int a2)] [] (wC G A c) 0 0 := by
  intro n
  induction n with
  | zero => intro a2 c h; exact absurd h (by simp [fX2_countHolds_L22])
  | succ n ih =>
    intro a2 c h
    unfold fX2_countHolds_L22 at h
    refine V_iload_n eX2_countHolds_22 2 rfl ?_
    refine V_if_lt (tgt := 135) eX2_countHolds_23 rfl (fun hb2 => ?_) (fun hb2 => ?_)
    · replace h := (if_pos hb2).symm.trans h
      refine V_lv (lv' := [(0, .ref (A 13))]) [0] rfl ?_
      exact hk c h
    · replace h := (if_neg hb2).symm.trans h
      refine V_iconst (v := (0 : Int32)) eX2_countHolds_26 rfl ?_
      refine V_istore_n (lv' := [(3, .int (0 : Int32)), (0, .ref (A 13)), (1, .int a1), (2, .int a2)]) eX2_countHolds_27 (Nat.le_of_ble_eq_true rfl) rfl ?_
      refine V_lv (lv' := [(0, .ref (A 13)), (1, .int a1), (2, .int a2), (3, .int (0 : Int32))]) [1, 2, 3, 0] rfl ?_
      refine ctX2_countHolds_L28 l G A _ a1 a2 ?_ fu (0 : Int32) c h
      · intro c12 h
        refine V_iinc (v := (a2 + (-1 : Int32))) (lv' := [(2, .int (a2 + (-1 : Int32))), (0, .ref (A 13)), (1, .int a1)]) eX2_countHolds_129 2 rfl rfl (Nat.le_of_ble_eq_true rfl) rfl ?_
        refine V_goto (tgt := 22) eX2_countHolds_132 rfl ?_
        refine V_lv (lv' := [(0, .ref (A 13)), (1, .int a1), (2, .int (a2 + (-1 : Int32)))]) [1, 2, 0] rfl ?_
        exact ih (a2 + (-1 : Int32)) c12 h
set_option maxRecDepth 20000 in
theorem ctX2_countHolds (l : Launch) (G : tg_G) (A : Nat → Nat) (c : SS) (p1 : Int32) {z : Int32 × SS} (h : fX2_countHolds c p1 = some z) : Mt l G yX2_countHolds cX2_countHolds 8 (some .int) (tg_R 2 43) [.ref (A 13), .int p1] (wC G A c) (fun v w1 => v = some (.int z.1) ∧ w1 = wC G A z.2) := by
  refine Mt_of2 (own := "TramGod$Planner") (nm := "countHolds") rfl rfl rfl (Nat.le_of_ble_eq_true rfl) (lv := [(0, .ref (A 13)), (1, .int p1)]) rfl ?_
  unfold fX2_countHolds at h
  refine V_aload_n eX2_countHolds_0 0 rfl ?_
  refine V_aload_n eX2_countHolds_1 0 rfl ?_
  refine V_get (v := .ref (A 3)) eX2_countHolds_2 inX2 13 rfl rfl 0 (Nat.le_of_ble_eq_true rfl) tw_133 rfl ?_
  refine V_get (v := .int (c.1 1)) eX2_countHolds_5 inX5 3 rfl rfl 0 (Nat.le_of_ble_eq_true rfl) tw_45 rfl ?_
  refine V_iconst (v := (1 : Int32)) eX2_countHolds_8 rfl ?_
  obtain ⟨q1, hc1, h⟩ := Option.bind_eq_some_iff.mp h
  refine V_callVv (rest := []) eX2_countHolds_9 (ctX2_startRow l G A c (c.1 1) (1 : Int32) hc1) tc_430 tw_427 tw_5 tw_429 ts_9 13 rfl rfl hdX2_startRow rfl ⟨Nat.le_of_ble_eq_true rfl, Nat.le_of_ble_eq_true rfl⟩ rfl (Nat.le_of_ble_eq_true rfl) ⟨Nat.zero_le _, Nat.zero_le _⟩ ?_
  refine V_aload_n eX2_countHolds_12 0 rfl ?_
  refine V_get (v := .ref (A 3)) eX2_countHolds_13 inX2 13 rfl rfl 0 (Nat.le_of_ble_eq_true rfl) tw_133 rfl ?_
  refine V_get (v := .int (q1.1 1)) eX2_countHolds_16 inX5 3 rfl rfl 0 (Nat.le_of_ble_eq_true rfl) tw_45 rfl ?_
  refine V_iconst (v := (1 : Int32)) eX2_countHolds_19 rfl ?_
  refine V_isub eX2_countHolds_20 ?_
  refine V_istore_n (lv' := [(2, .int ((q1.1 1) - (1 : Int32))), (0, .ref (A 13)), (1, .int p1)]) eX2_countHolds_21 (Nat.le_of_ble_eq_true rfl) rfl ?_
  refine V_lv (lv' := [(0, .ref (A 13)), (1, .int p1), (2, .int ((q1.1 1) - (1 : Int32)))]) [1, 2, 0] rfl ?_
  refine ctX2_countHolds_L22 l G A _ p1 ?_ fu ((q1.1 1) - (1 : Int32)) q1 h
  · intro c13 h
    refine V_aload_n eX2_countHolds_135 0 rfl ?_
    refine V_get (v := .ref (A 16)) eX2_countHolds_136 inX2 13 rfl rfl 4 (Nat.le_of_ble_eq_true rfl) tw_138 rfl ?_
    refine V_iconst (v := (0 : Int32)) eX2_countHolds_139 rfl ?_
    obtain ⟨v14, hi14, ev14, h⟩ := ald_some h
    refine V_ialdv eX2_countHolds_140 16 rfl hi14 ev14 ?_
    obtain rfl := Option.some.inj h
    exact V_ret eX2_countHolds_141 rfl ⟨rfl, rfl⟩
theorem hdX6_held : yX6_held.cls ≠ "java/lang/invoke/MethodHandle" ∧ yX6_held.cls ≠ "java/lang/invoke/VarHandle" ∧ (parseMethodDescriptor yX6_held.desc).map (fun d => d.parameters.length) = some 2 := by decide +kernel
theorem eX6_held_0 : Dc cX6_held 0 (.aload_n 0) 1 1 := ⟨by decide +kernel, rfl⟩
theorem eX6_held_1 : Dc cX6_held 1 (.iload_n 1) 1 2 := ⟨by decide +kernel, rfl⟩
theorem eX6_held_2 : Dc cX6_held 2 (.invokevirtual 166) 3 5 := ⟨by decide +kernel, rfl⟩
theorem eX6_held_5 : Dc cX6_held 5 (.ifCond .ne 5) 3 8 := ⟨by decide +kernel, rfl⟩
theorem eX6_held_8 : Dc cX6_held 8 (.iconst (-1)) 1 9 := ⟨by decide +kernel, rfl⟩
theorem eX6_held_9 : Dc cX6_held 9 (.ireturn) 1 10 := ⟨by decide +kernel, rfl⟩
theorem eX6_held_10 : Dc cX6_held 10 (.iload_n 2) 1 11 := ⟨by decide +kernel, rfl⟩
theorem eX6_held_11 : Dc cX6_held 11 (.iconst 0) 1 12 := ⟨by decide +kernel, rfl⟩
theorem eX6_held_12 : Dc cX6_held 12 (.iconst 1) 1 13 := ⟨by decide +kernel, rfl⟩
theorem eX6_held_13 : Dc cX6_held 13 (.invokestatic 68) 3 16 := ⟨by decide +kernel, rfl⟩
theorem eX6_held_16 : Dc cX6_held 16 (.ifCond .ne 6) 3 19 := ⟨by decide +kernel, rfl⟩
theorem eX6_held_19 : Dc cX6_held 19 (.bipush (-2)) 2 21 := ⟨by decide +kernel, rfl⟩
theorem eX6_held_21 : Dc cX6_held 21 (.ireturn) 1 22 := ⟨by decide +kernel, rfl⟩
theorem eX6_held_22 : Dc cX6_held 22 (.iload_n 1) 1 23 := ⟨by decide +kernel, rfl⟩
theorem eX6_held_23 : Dc cX6_held 23 (.iconst (-1)) 1 24 := ⟨by decide +kernel, rfl⟩
theorem eX6_held_24 : Dc cX6_held 24 (.if_icmp .ne 27) 3 27 := ⟨by decide +kernel, rfl⟩
theorem eX6_held_27 : Dc cX6_held 27 (.iload_n 2) 1 28 := ⟨by decide +kernel, rfl⟩
theorem eX6_held_28 : Dc cX6_held 28 (.iconst 1) 1 29 := ⟨by decide +kernel, rfl⟩
theorem eX6_held_29 : Dc cX6_held 29 (.if_icmp .ne 22) 3 32 := ⟨by decide +kernel, rfl⟩
theorem eX6_held_32 : Dc cX6_held 32 (.aload_n 0) 1 33 := ⟨by decide +kernel, rfl⟩
theorem eX6_held_33 : Dc cX6_held 33 (.aload_n 0) 1 34 := ⟨by decide +kernel, rfl⟩
theorem eX6_held_34 : Dc cX6_held 34 (.getfield 19) 3 37 := ⟨by decide +kernel, rfl⟩
theorem eX6_held_37 : Dc cX6_held 37 (.getfield 217) 3 40 := ⟨by decide +kernel, rfl⟩
theorem eX6_held_40 : Dc cX6_held 40 (.aload_n 0) 1 41 := ⟨by decide +kernel, rfl⟩
theorem eX6_held_41 : Dc cX6_held 41 (.getfield 19) 3 44 := ⟨by decide +kernel, rfl⟩
theorem eX6_held_44 : Dc cX6_held 44 (.getfield 220) 3 47 := ⟨by decide +kernel, rfl⟩
theorem eX6_held_47 : Dc cX6_held 47 (.invokevirtual 179) 3 50 := ⟨by decide +kernel, rfl⟩
theorem eX6_held_50 : Dc cX6_held 50 (.ireturn) 1 51 := ⟨by decide +kernel, rfl⟩
theorem eX6_held_51 : Dc cX6_held 51 (.aload_n 0) 1 52 := ⟨by decide +kernel, rfl⟩
theorem eX6_held_52 : Dc cX6_held 52 (.getfield 32) 3 55 := ⟨by decide +kernel, rfl⟩
theorem eX6_held_55 : Dc cX6_held 55 (.aload_n 0) 1 56 := ⟨by decide +kernel, rfl⟩
theorem eX6_held_56 : Dc cX6_held 56 (.getfield 19) 3 59 := ⟨by decide +kernel, rfl⟩
theorem eX6_held_59 : Dc cX6_held 59 (.getfield 94) 3 62 := ⟨by decide +kernel, rfl⟩
theorem eX6_held_62 : Dc cX6_held 62 (.invokevirtual 182) 3 65 := ⟨by decide +kernel, rfl⟩
theorem eX6_held_65 : Dc cX6_held 65 (.aload_n 0) 1 66 := ⟨by decide +kernel, rfl⟩
theorem eX6_held_66 : Dc cX6_held 66 (.getfield 41) 3 69 := ⟨by decide +kernel, rfl⟩
theorem eX6_held_69 : Dc cX6_held 69 (.aload_n 0) 1 70 := ⟨by decide +kernel, rfl⟩
theorem eX6_held_70 : Dc cX6_held 70 (.getfield 19) 3 73 := ⟨by decide +kernel, rfl⟩
theorem eX6_held_73 : Dc cX6_held 73 (.getfield 217) 3 76 := ⟨by decide +kernel, rfl⟩
theorem eX6_held_76 : Dc cX6_held 76 (.aload_n 0) 1 77 := ⟨by decide +kernel, rfl⟩
theorem eX6_held_77 : Dc cX6_held 77 (.getfield 19) 3 80 := ⟨by decide +kernel, rfl⟩
theorem eX6_held_80 : Dc cX6_held 80 (.getfield 220) 3 83 := ⟨by decide +kernel, rfl⟩
theorem eX6_held_83 : Dc cX6_held 83 (.invokevirtual 223) 3 86 := ⟨by decide +kernel, rfl⟩
theorem eX6_held_86 : Dc cX6_held 86 (.iload_n 1) 1 87 := ⟨by decide +kernel, rfl⟩
theorem eX6_held_87 : Dc cX6_held 87 (.iconst (-1)) 1 88 := ⟨by decide +kernel, rfl⟩
theorem eX6_held_88 : Dc cX6_held 88 (.if_icmp .ne 18) 3 91 := ⟨by decide +kernel, rfl⟩
theorem eX6_held_91 : Dc cX6_held 91 (.aload_n 0) 1 92 := ⟨by decide +kernel, rfl⟩
theorem eX6_held_92 : Dc cX6_held 92 (.getfield 41) 3 95 := ⟨by decide +kernel, rfl⟩
theorem eX6_held_95 : Dc cX6_held 95 (.aload_n 0) 1 96 := ⟨by decide +kernel, rfl⟩
theorem eX6_held_96 : Dc cX6_held 96 (.getfield 19) 3 99 := ⟨by decide +kernel, rfl⟩
theorem eX6_held_99 : Dc cX6_held 99 (.getfield 130) 3 102 := ⟨by decide +kernel, rfl⟩
theorem eX6_held_102 : Dc cX6_held 102 (.invokevirtual 227) 3 105 := ⟨by decide +kernel, rfl⟩
theorem eX6_held_105 : Dc cX6_held 105 (.ireturn) 1 106 := ⟨by decide +kernel, rfl⟩
theorem eX6_held_106 : Dc cX6_held 106 (.aload_n 0) 1 107 := ⟨by decide +kernel, rfl⟩
theorem eX6_held_107 : Dc cX6_held 107 (.getfield 41) 3 110 := ⟨by decide +kernel, rfl⟩
theorem eX6_held_110 : Dc cX6_held 110 (.iconst 0) 1 111 := ⟨by decide +kernel, rfl⟩
theorem eX6_held_111 : Dc cX6_held 111 (.invokevirtual 230) 3 114 := ⟨by decide +kernel, rfl⟩
theorem eX6_held_114 : Dc cX6_held 114 (.aload_n 0) 1 115 := ⟨by decide +kernel, rfl⟩
theorem eX6_held_115 : Dc cX6_held 115 (.getfield 41) 3 118 := ⟨by decide +kernel, rfl⟩
theorem eX6_held_118 : Dc cX6_held 118 (.getfield 233) 3 121 := ⟨by decide +kernel, rfl⟩
theorem eX6_held_121 : Dc cX6_held 121 (.iload_n 1) 1 122 := ⟨by decide +kernel, rfl⟩
theorem eX6_held_122 : Dc cX6_held 122 (.iload_n 2) 1 123 := ⟨by decide +kernel, rfl⟩
theorem eX6_held_123 : Dc cX6_held 123 (.ifCond .ne 7) 3 126 := ⟨by decide +kernel, rfl⟩
theorem eX6_held_126 : Dc cX6_held 126 (.iconst (-1)) 1 127 := ⟨by decide +kernel, rfl⟩
theorem eX6_held_127 : Dc cX6_held 127 (.goto 4) 3 130 := ⟨by decide +kernel, rfl⟩
theorem eX6_held_130 : Dc cX6_held 130 (.iconst 1) 1 131 := ⟨by decide +kernel, rfl⟩
theorem eX6_held_131 : Dc cX6_held 131 (.iastore) 1 132 := ⟨by decide +kernel, rfl⟩
theorem eX6_held_132 : Dc cX6_held 132 (.aload_n 0) 1 133 := ⟨by decide +kernel, rfl⟩
theorem eX6_held_133 : Dc cX6_held 133 (.getfield 41) 3 136 := ⟨by decide +kernel, rfl⟩
theorem eX6_held_136 : Dc cX6_held 136 (.aload_n 0) 1 137 := ⟨by decide +kernel, rfl⟩
theorem eX6_held_137 : Dc cX6_held 137 (.getfield 19) 3 140 := ⟨by decide +kernel, rfl⟩
theorem eX6_held_140 : Dc cX6_held 140 (.getfield 130) 3 143 := ⟨by decide +kernel, rfl⟩
theorem eX6_held_143 : Dc cX6_held 143 (.invokevirtual 236) 3 146 := ⟨by decide +kernel, rfl⟩
theorem eX6_held_146 : Dc cX6_held 146 (.ldc 239) 2 148 := ⟨by decide +kernel, rfl⟩
theorem eX6_held_148 : Dc cX6_held 148 (.if_icmp .gt 8) 3 151 := ⟨by decide +kernel, rfl⟩
theorem eX6_held_151 : Dc cX6_held 151 (.bipush (-6)) 2 153 := ⟨by decide +kernel, rfl⟩
theorem eX6_held_153 : Dc cX6_held 153 (.goto 11) 3 156 := ⟨by decide +kernel, rfl⟩
theorem eX6_held_156 : Dc cX6_held 156 (.aload_n 0) 1 157 := ⟨by decide +kernel, rfl⟩
theorem eX6_held_157 : Dc cX6_held 157 (.getfield 41) 3 160 := ⟨by decide +kernel, rfl⟩
theorem eX6_held_160 : Dc cX6_held 160 (.iload_n 1) 1 161 := ⟨by decide +kernel, rfl⟩
theorem eX6_held_161 : Dc cX6_held 161 (.invokevirtual 172) 3 164 := ⟨by decide +kernel, rfl⟩
theorem eX6_held_164 : Dc cX6_held 164 (.ireturn) 1 165 := ⟨by decide +kernel, rfl⟩
def fX6_held (c : SS) (p1 : Int32) (p2 : Int32) : Option (Int32 × SS) := if (fX6_isStopOrAll c p1) = (0 : Int32) then some ((-1 : Int32), c) else if (fX6_within p2 (0 : Int32) (1 : Int32)) = (0 : Int32) then some ((-2 : Int32), c) else jn (fun (_ : Unit) => Option.bind (fX4_measure c (c.1 2)) (fun q3 => Option.bind (fX2_wantSets q3 (q3.1 7) (q3.1 8)) (fun q4 => if p1 = (-1 : Int32) then Option.bind (fX2_countHolds q4 (q4.1 3)) (fun q13 => some (q13.1, q13.2)) else Option.bind (fX2_weighAll q4 (0 : Int32)) (fun q6 => jn (fun (x7 : Int32) => ckb 6 p1 (Option.bind (fX2_solve (sA q6 10 (p1).toNatClampNeg x7) (q6.1 3)) (fun q9 => if (-500000 : Int32) < q9.1 then Option.bind (fX2_breathsAt q9.2 p1) (fun q11 => some (q11, q9.2)) else some ((-6 : Int32), q9.2)))) (fun j131 => if p2 = (0 : Int32) then j131 (-1 : Int32) else j131 (1 : Int32)))))) (fun j51 => if p1 = (-1 : Int32) then if p2 = (1 : Int32) then Option.bind (fX6_fewestBreaths c (c.1 7) (c.1 8)) (fun q16 => some (q16.1, q16.2)) else j51 () else j51 ())
set_option maxRecDepth 20000 in
theorem ctX6_held (l : Launch) (G : tg_G) (A : Nat → Nat) (c : SS) (p1 : Int32) (p2 : Int32) {z : Int32 × SS} (h : fX6_held c p1 p2 = some z) : Mt l G yX6_held cX6_held 3 (some .int) (tg_R 5 117) [.ref (A 0), .int p1, .int p2] (wC G A c) (fun v w1 => v = some (.int z.1) ∧ w1 = wC G A z.2) := by
  refine Mt_of2 (own := "TramGod") (nm := "held") rfl rfl rfl (Nat.le_of_ble_eq_true rfl) (lv := [(0, .ref (A 0)), (1, .int p1), (2, .int p2)]) rfl ?_
  unfold fX6_held at h
  refine V_aload_n eX6_held_0 0 rfl ?_
  refine V_iload_n eX6_held_1 1 rfl ?_
  refine V_callVi (rest := []) eX6_held_2 (ctX6_isStopOrAll l G A c p1 rfl) tc_406 tw_403 tw_1 tw_405 ts_6 0 rfl rfl hdX6_isStopOrAll rfl ⟨Nat.le_of_ble_eq_true rfl, Nat.le_of_ble_eq_true rfl⟩ rfl (Nat.le_of_ble_eq_true rfl) ⟨Nat.zero_le _, Nat.zero_le _⟩ ?_
  refine V_if_ne (tgt := 10) eX6_held_5 rfl (fun hb1 => ?_) (fun hb1 => ?_)
  · replace h := (if_neg hb1).symm.trans h
    refine V_iload_n eX6_held_10 2 rfl ?_
    refine V_iconst (v := (0 : Int32)) eX6_held_11 rfl ?_
    refine V_iconst (v := (1 : Int32)) eX6_held_12 rfl ?_
    refine V_callSi (rest := []) eX6_held_13 (ctX6_within l G _ p2 (0 : Int32) (1 : Int32) rfl) tc_241 tw_239 tw_1 tw_240 hdX6_within rfl ⟨Nat.le_of_ble_eq_true rfl, Nat.le_of_ble_eq_true rfl⟩ rfl (Nat.le_of_ble_eq_true rfl) ⟨Nat.zero_le _, Nat.zero_le _⟩ ?_
    refine V_if_ne (tgt := 22) eX6_held_16 rfl (fun hb2 => ?_) (fun hb2 => ?_)
    · replace h := (if_neg hb2).symm.trans h
      refine V_iload_n eX6_held_22 1 rfl ?_
      refine V_iconst (v := (-1 : Int32)) eX6_held_23 rfl ?_
      refine jn_elim h (fun j => j () = some z → V l G (tg_Zm G (fun v w1 => v = some (.int z.1) ∧ w1 = wC G A z.2) 0 0) tg_E0 (tg_R 5 117) "TramGod" "held" cX6_held 3 (some .int) 51 [(0, .ref (A 0)), (1, .int p1), (2, .int p2)] [] (wC G A c) 0 0) ?_ (fun j51 hj51 h => ?_)
      · intro h
        refine V_aload_n eX6_held_51 0 rfl ?_
        refine V_get (v := .ref (A 11)) eX6_held_52 inX6 0 rfl rfl 3 (Nat.le_of_ble_eq_true rfl) tw_210 rfl ?_
        refine V_aload_n eX6_held_55 0 rfl ?_
        refine V_get (v := .ref (A 3)) eX6_held_56 inX6 0 rfl rfl 1 (Nat.le_of_ble_eq_true rfl) tw_208 rfl ?_
        refine V_get (v := .int (c.1 2)) eX6_held_59 inX5 3 rfl rfl 1 (Nat.le_of_ble_eq_true rfl) tw_47 rfl ?_
        obtain ⟨q3, hc3, h⟩ := Option.bind_eq_some_iff.mp h
        refine V_callVv (rest := []) eX6_held_62 (ctX4_measure l G A c (c.1 2) hc3) tc_352 tw_349 tw_4 tw_350 tw_351 11 rfl rfl hdX4_measure rfl ⟨Nat.le_of_ble_eq_true rfl, Nat.le_of_ble_eq_true rfl⟩ rfl (Nat.le_of_ble_eq_true rfl) ⟨Nat.zero_le _, Nat.zero_le _⟩ ?_
        refine V_aload_n eX6_held_65 0 rfl ?_
        refine V_get (v := .ref (A 13)) eX6_held_66 inX6 0 rfl rfl 4 (Nat.le_of_ble_eq_true rfl) tw_211 rfl ?_
        refine V_aload_n eX6_held_69 0 rfl ?_
        refine V_get (v := .ref (A 3)) eX6_held_70 inX6 0 rfl rfl 1 (Nat.le_of_ble_eq_true rfl) tw_208 rfl ?_
        refine V_get (v := .int (q3.1 7)) eX6_held_73 inX5 3 rfl rfl 6 (Nat.le_of_ble_eq_true rfl) tw_59 rfl ?_
        refine V_aload_n eX6_held_76 0 rfl ?_
        refine V_get (v := .ref (A 3)) eX6_held_77 inX6 0 rfl rfl 1 (Nat.le_of_ble_eq_true rfl) tw_208 rfl ?_
        refine V_get (v := .int (q3.1 8)) eX6_held_80 inX5 3 rfl rfl 7 (Nat.le_of_ble_eq_true rfl) tw_61 rfl ?_
        obtain ⟨q4, hc4, h⟩ := Option.bind_eq_some_iff.mp h
        refine V_callVv (rest := []) eX6_held_83 (ctX2_wantSets l G A q3 (q3.1 7) (q3.1 8) hc4) tc_464 tw_461 tw_5 tw_462 tw_463 13 rfl rfl hdX2_wantSets rfl ⟨Nat.le_of_ble_eq_true rfl, Nat.le_of_ble_eq_true rfl⟩ rfl (Nat.le_of_ble_eq_true rfl) ⟨Nat.zero_le _, Nat.zero_le _⟩ ?_
        refine V_iload_n eX6_held_86 1 rfl ?_
        refine V_iconst (v := (-1 : Int32)) eX6_held_87 rfl ?_
        refine V_icmp_ne (tgt := 106) eX6_held_88 rfl (fun hb5 => ?_) (fun hb5 => ?_)
        · replace h := (if_neg hb5).symm.trans h
          refine V_aload_n eX6_held_106 0 rfl ?_
          refine V_get (v := .ref (A 13)) eX6_held_107 inX6 0 rfl rfl 4 (Nat.le_of_ble_eq_true rfl) tw_211 rfl ?_
          refine V_iconst (v := (0 : Int32)) eX6_held_110 rfl ?_
          obtain ⟨q6, hc6, h⟩ := Option.bind_eq_some_iff.mp h
          refine V_callVv (rest := []) eX6_held_111 (ctX2_weighAll l G A q4 (0 : Int32) hc6) tc_422 tw_419 tw_5 tw_420 tw_421 13 rfl rfl hdX2_weighAll rfl ⟨Nat.le_of_ble_eq_true rfl, Nat.le_of_ble_eq_true rfl⟩ rfl (Nat.le_of_ble_eq_true rfl) ⟨Nat.zero_le _, Nat.zero_le _⟩ ?_
          refine V_aload_n eX6_held_114 0 rfl ?_
          refine V_get (v := .ref (A 13)) eX6_held_115 inX6 0 rfl rfl 4 (Nat.le_of_ble_eq_true rfl) tw_211 rfl ?_
          refine V_get (v := .ref (A 15)) eX6_held_118 inX2 13 rfl rfl 3 (Nat.le_of_ble_eq_true rfl) tw_137 rfl ?_
          refine V_iload_n eX6_held_121 1 rfl ?_
          refine V_iload_n eX6_held_122 2 rfl ?_
          refine jn_elim h (fun j => ∀ (x7 : Int32), j x7 = some z → V l G (tg_Zm G (fun v w1 => v = some (.int z.1) ∧ w1 = wC G A z.2) 0 0) tg_E0 (tg_R 5 117) "TramGod" "held" cX6_held 3 (some .int) 131 [(0, .ref (A 0)), (1, .int p1)] [.int x7, .int p1, .ref (A 15)] (wC G A q6) 0 0) ?_ (fun j131 hj131 h => ?_)
          · intro x7 h
            obtain ⟨hi8, h⟩ := ckb_some h
            refine V_iast (w' := wC G A (sA q6 10 (p1).toNatClampNeg x7)) eX6_held_131 15 rfl hi8 rfl ?_
            refine V_aload_n eX6_held_132 0 rfl ?_
            refine V_get (v := .ref (A 13)) eX6_held_133 inX6 0 rfl rfl 4 (Nat.le_of_ble_eq_true rfl) tw_211 rfl ?_
            refine V_aload_n eX6_held_136 0 rfl ?_
            refine V_get (v := .ref (A 3)) eX6_held_137 inX6 0 rfl rfl 1 (Nat.le_of_ble_eq_true rfl) tw_208 rfl ?_
            refine V_get (v := .int (q6.1 3)) eX6_held_140 inX5 3 rfl rfl 2 (Nat.le_of_ble_eq_true rfl) tw_51 rfl ?_
            obtain ⟨q9, hc9, h⟩ := Option.bind_eq_some_iff.mp h
            refine V_callVi (rest := []) eX6_held_143 (ctX2_solve l G A (sA q6 10 (p1).toNatClampNeg x7) (q6.1 3) hc9) tc_426 tw_423 tw_5 tw_424 tw_425 13 rfl rfl hdX2_solve rfl ⟨Nat.le_of_ble_eq_true rfl, Nat.le_of_ble_eq_true rfl⟩ rfl (Nat.le_of_ble_eq_true rfl) ⟨Nat.zero_le _, Nat.zero_le _⟩ ?_
            refine V_ldc eX6_held_146 tw_466 ?_
            refine V_icmp_gt (tgt := 156) eX6_held_148 rfl (fun hb10 => ?_) (fun hb10 => ?_)
            · replace h := (if_pos hb10).symm.trans h
              refine V_aload_n eX6_held_156 0 rfl ?_
              refine V_get (v := .ref (A 13)) eX6_held_157 inX6 0 rfl rfl 4 (Nat.le_of_ble_eq_true rfl) tw_211 rfl ?_
              refine V_iload_n eX6_held_160 1 rfl ?_
              obtain ⟨q11, hc11, h⟩ := Option.bind_eq_some_iff.mp h
              refine V_callVi (rest := []) eX6_held_161 (ctX2_breathsAt l G A q9.2 p1 hc11) tc_443 tw_440 tw_5 tw_441 tw_442 13 rfl rfl hdX2_breathsAt rfl ⟨Nat.le_of_ble_eq_true rfl, Nat.le_of_ble_eq_true rfl⟩ rfl (Nat.le_of_ble_eq_true rfl) ⟨Nat.zero_le _, Nat.zero_le _⟩ ?_
              obtain rfl := Option.some.inj h
              exact V_ret eX6_held_164 rfl ⟨rfl, rfl⟩
            · replace h := (if_neg hb10).symm.trans h
              refine V_bipush (v := (-6 : Int32)) eX6_held_151 rfl ?_
              refine V_goto (tgt := 164) eX6_held_153 rfl ?_
              obtain rfl := Option.some.inj h
              exact V_ret eX6_held_164 rfl ⟨rfl, rfl⟩
          refine V_if_ne (tgt := 130) eX6_held_123 rfl (fun hb12 => ?_) (fun hb12 => ?_)
          · replace h := (if_neg hb12).symm.trans h
            refine V_iconst (v := (1 : Int32)) eX6_held_130 rfl ?_
            refine V_lv (lv' := [(0, .ref (A 0)), (1, .int p1)]) [0, 1] rfl ?_
            exact hj131 (1 : Int32) h
          · replace h := (if_pos hb12).symm.trans h
            refine V_iconst (v := (-1 : Int32)) eX6_held_126 rfl ?_
            refine V_goto (tgt := 131) eX6_held_127 rfl ?_
            refine V_lv (lv' := [(0, .ref (A 0)), (1, .int p1)]) [0, 1] rfl ?_
            exact hj131 (-1 : Int32) h
        · replace h := (if_pos hb5).symm.trans h
          refine V_aload_n eX6_held_91 0 rfl ?_
          refine V_get (v := .ref (A 13)) eX6_held_92 inX6 0 rfl rfl 4 (Nat.le_of_ble_eq_true rfl) tw_211 rfl ?_
          refine V_aload_n eX6_held_95 0 rfl ?_
          refine V_get (v := .ref (A 3)) eX6_held_96 inX6 0 rfl rfl 1 (Nat.le_of_ble_eq_true rfl) tw_208 rfl ?_
          refine V_get (v := .int (q4.1 3)) eX6_held_99 inX5 3 rfl rfl 2 (Nat.le_of_ble_eq_true rfl) tw_51 rfl ?_
          obtain ⟨q13, hc13, h⟩ := Option.bind_eq_some_iff.mp h
          refine V_callVi (rest := []) eX6_held_102 (ctX2_countHolds l G A q4 (q4.1 3) hc13) tc_577 tw_574 tw_5 tw_575 tw_576 13 rfl rfl hdX2_countHolds rfl ⟨Nat.le_of_ble_eq_true rfl, Nat.le_of_ble_eq_true rfl⟩ rfl (Nat.le_of_ble_eq_true rfl) ⟨Nat.zero_le _, Nat.zero_le _⟩ ?_
          obtain rfl := Option.some.inj h
          exact V_ret eX6_held_105 rfl ⟨rfl, rfl⟩
      refine V_icmp_ne (tgt := 51) eX6_held_24 rfl (fun hb14 => ?_) (fun hb14 => ?_)
      · replace h := (if_neg hb14).symm.trans h
        exact hj51 h
      · replace h := (if_pos hb14).symm.trans h
        refine V_iload_n eX6_held_27 2 rfl ?_
        refine V_iconst (v := (1 : Int32)) eX6_held_28 rfl ?_
        refine V_icmp_ne (tgt := 51) eX6_held_29 rfl (fun hb15 => ?_) (fun hb15 => ?_)
        · replace h := (if_neg hb15).symm.trans h
          exact hj51 h
        · replace h := (if_pos hb15).symm.trans h
          refine V_aload_n eX6_held_32 0 rfl ?_
          refine V_aload_n eX6_held_33 0 rfl ?_
          refine V_get (v := .ref (A 3)) eX6_held_34 inX6 0 rfl rfl 1 (Nat.le_of_ble_eq_true rfl) tw_208 rfl ?_
          refine V_get (v := .int (c.1 7)) eX6_held_37 inX5 3 rfl rfl 6 (Nat.le_of_ble_eq_true rfl) tw_59 rfl ?_
          refine V_aload_n eX6_held_40 0 rfl ?_
          refine V_get (v := .ref (A 3)) eX6_held_41 inX6 0 rfl rfl 1 (Nat.le_of_ble_eq_true rfl) tw_208 rfl ?_
          refine V_get (v := .int (c.1 8)) eX6_held_44 inX5 3 rfl rfl 7 (Nat.le_of_ble_eq_true rfl) tw_61 rfl ?_
          obtain ⟨q16, hc16, h⟩ := Option.bind_eq_some_iff.mp h
          refine V_callVi (rest := []) eX6_held_47 (ctX6_fewestBreaths l G A c (c.1 7) (c.1 8) hc16) tc_460 tw_457 tw_1 tw_459 ts_12 0 rfl rfl hdX6_fewestBreaths rfl ⟨Nat.le_of_ble_eq_true rfl, Nat.le_of_ble_eq_true rfl⟩ rfl (Nat.le_of_ble_eq_true rfl) ⟨Nat.zero_le _, Nat.zero_le _⟩ ?_
          obtain rfl := Option.some.inj h
          exact V_ret eX6_held_50 rfl ⟨rfl, rfl⟩
    · replace h := (if_pos hb2).symm.trans h
      refine V_bipush (v := (-2 : Int32)) eX6_held_19 rfl ?_
      obtain rfl := Option.some.inj h
      exact V_ret eX6_held_21 rfl ⟨rfl, rfl⟩
  · replace h := (if_pos hb1).symm.trans h
    refine V_iconst (v := (-1 : Int32)) eX6_held_8 rfl ?_
    obtain rfl := Option.some.inj h
    exact V_ret eX6_held_9 rfl ⟨rfl, rfl⟩
theorem hdX6_areRunners : yX6_areRunners.cls ≠ "java/lang/invoke/MethodHandle" ∧ yX6_areRunners.cls ≠ "java/lang/invoke/VarHandle" ∧ (parseMethodDescriptor yX6_areRunners.desc).map (fun d => d.parameters.length) = some 3 := by decide +kernel
theorem eX6_areRunners_0 : Dc cX6_areRunners 0 (.iload_n 0) 1 1 := ⟨by decide +kernel, rfl⟩
theorem eX6_areRunners_1 : Dc cX6_areRunners 1 (.iconst 1) 1 2 := ⟨by decide +kernel, rfl⟩
theorem eX6_areRunners_2 : Dc cX6_areRunners 2 (.bipush 20) 2 4 := ⟨by decide +kernel, rfl⟩
theorem eX6_areRunners_4 : Dc cX6_areRunners 4 (.invokestatic 68) 3 7 := ⟨by decide +kernel, rfl⟩
theorem eX6_areRunners_7 : Dc cX6_areRunners 7 (.ifCond .eq 26) 3 10 := ⟨by decide +kernel, rfl⟩
theorem eX6_areRunners_10 : Dc cX6_areRunners 10 (.iload_n 1) 1 11 := ⟨by decide +kernel, rfl⟩
theorem eX6_areRunners_11 : Dc cX6_areRunners 11 (.iconst 0) 1 12 := ⟨by decide +kernel, rfl⟩
theorem eX6_areRunners_12 : Dc cX6_areRunners 12 (.bipush 10) 2 14 := ⟨by decide +kernel, rfl⟩
theorem eX6_areRunners_14 : Dc cX6_areRunners 14 (.invokestatic 68) 3 17 := ⟨by decide +kernel, rfl⟩
theorem eX6_areRunners_17 : Dc cX6_areRunners 17 (.ifCond .eq 16) 3 20 := ⟨by decide +kernel, rfl⟩
theorem eX6_areRunners_20 : Dc cX6_areRunners 20 (.iload_n 2) 1 21 := ⟨by decide +kernel, rfl⟩
theorem eX6_areRunners_21 : Dc cX6_areRunners 21 (.iconst 0) 1 22 := ⟨by decide +kernel, rfl⟩
theorem eX6_areRunners_22 : Dc cX6_areRunners 22 (.iconst 1) 1 23 := ⟨by decide +kernel, rfl⟩
theorem eX6_areRunners_23 : Dc cX6_areRunners 23 (.invokestatic 68) 3 26 := ⟨by decide +kernel, rfl⟩
theorem eX6_areRunners_26 : Dc cX6_areRunners 26 (.ifCond .eq 7) 3 29 := ⟨by decide +kernel, rfl⟩
theorem eX6_areRunners_29 : Dc cX6_areRunners 29 (.iconst 1) 1 30 := ⟨by decide +kernel, rfl⟩
theorem eX6_areRunners_30 : Dc cX6_areRunners 30 (.goto 4) 3 33 := ⟨by decide +kernel, rfl⟩
theorem eX6_areRunners_33 : Dc cX6_areRunners 33 (.iconst 0) 1 34 := ⟨by decide +kernel, rfl⟩
theorem eX6_areRunners_34 : Dc cX6_areRunners 34 (.ireturn) 1 35 := ⟨by decide +kernel, rfl⟩
def fX6_areRunners (p0 : Int32) (p1 : Int32) (p2 : Int32) : Int32 := if (fX6_within p0 (1 : Int32) (20 : Int32)) = (0 : Int32) then (0 : Int32) else if (fX6_within p1 (0 : Int32) (10 : Int32)) = (0 : Int32) then (0 : Int32) else if (fX6_within p2 (0 : Int32) (1 : Int32)) = (0 : Int32) then (0 : Int32) else (1 : Int32)
set_option maxRecDepth 20000 in
theorem ctX6_areRunners (l : Launch) (G : tg_G) (w : va_W) (p0 : Int32) (p1 : Int32) (p2 : Int32) {z : Int32} (h : fX6_areRunners p0 p1 p2 = z) : Mt l G yX6_areRunners cX6_areRunners 3 (some .boolean) (tg_R 1 22) [.int p0, .int p1, .int p2] (w) (fun v w1 => v = some (.int z) ∧ w1 = w) := by
  refine Mt_of2 (own := "TramGod") (nm := "areRunners") rfl rfl rfl (Nat.le_of_ble_eq_true rfl) (lv := [(0, .int p0), (1, .int p1), (2, .int p2)]) rfl ?_
  unfold fX6_areRunners at h
  refine V_iload_n eX6_areRunners_0 0 rfl ?_
  refine V_iconst (v := (1 : Int32)) eX6_areRunners_1 rfl ?_
  refine V_bipush (v := (20 : Int32)) eX6_areRunners_2 rfl ?_
  refine V_callSi (rest := []) eX6_areRunners_4 (ctX6_within l G _ p0 (1 : Int32) (20 : Int32) rfl) tc_241 tw_239 tw_1 tw_240 hdX6_within rfl ⟨Nat.le_of_ble_eq_true rfl, Nat.le_of_ble_eq_true rfl⟩ rfl (Nat.le_of_ble_eq_true rfl) ⟨Nat.zero_le _, Nat.zero_le _⟩ ?_
  refine V_if_eq (tgt := 33) eX6_areRunners_7 rfl (fun hb1 => ?_) (fun hb1 => ?_)
  · replace h := (if_pos hb1).symm.trans h
    refine V_iconst (v := (0 : Int32)) eX6_areRunners_33 rfl ?_
    subst h
    exact V_zret eX6_areRunners_34 rfl rfl ⟨rfl, rfl⟩
  · replace h := (if_neg hb1).symm.trans h
    refine V_iload_n eX6_areRunners_10 1 rfl ?_
    refine V_iconst (v := (0 : Int32)) eX6_areRunners_11 rfl ?_
    refine V_bipush (v := (10 : Int32)) eX6_areRunners_12 rfl ?_
    refine V_callSi (rest := []) eX6_areRunners_14 (ctX6_within l G _ p1 (0 : Int32) (10 : Int32) rfl) tc_241 tw_239 tw_1 tw_240 hdX6_within rfl ⟨Nat.le_of_ble_eq_true rfl, Nat.le_of_ble_eq_true rfl⟩ rfl (Nat.le_of_ble_eq_true rfl) ⟨Nat.zero_le _, Nat.zero_le _⟩ ?_
    refine V_if_eq (tgt := 33) eX6_areRunners_17 rfl (fun hb2 => ?_) (fun hb2 => ?_)
    · replace h := (if_pos hb2).symm.trans h
      refine V_iconst (v := (0 : Int32)) eX6_areRunners_33 rfl ?_
      subst h
      exact V_zret eX6_areRunners_34 rfl rfl ⟨rfl, rfl⟩
    · replace h := (if_neg hb2).symm.trans h
      refine V_iload_n eX6_areRunners_20 2 rfl ?_
      refine V_iconst (v := (0 : Int32)) eX6_areRunners_21 rfl ?_
      refine V_iconst (v := (1 : Int32)) eX6_areRunners_22 rfl ?_
      refine V_callSi (rest := []) eX6_areRunners_23 (ctX6_within l G _ p2 (0 : Int32) (1 : Int32) rfl) tc_241 tw_239 tw_1 tw_240 hdX6_within rfl ⟨Nat.le_of_ble_eq_true rfl, Nat.le_of_ble_eq_true rfl⟩ rfl (Nat.le_of_ble_eq_true rfl) ⟨Nat.zero_le _, Nat.zero_le _⟩ ?_
      refine V_if_eq (tgt := 33) eX6_areRunners_26 rfl (fun hb3 => ?_) (fun hb3 => ?_)
      · replace h := (if_pos hb3).symm.trans h
        refine V_iconst (v := (0 : Int32)) eX6_areRunners_33 rfl ?_
        subst h
        exact V_zret eX6_areRunners_34 rfl rfl ⟨rfl, rfl⟩
      · replace h := (if_neg hb3).symm.trans h
        refine V_iconst (v := (1 : Int32)) eX6_areRunners_29 rfl ?_
        refine V_goto (tgt := 34) eX6_areRunners_30 rfl ?_
        subst h
        exact V_zret eX6_areRunners_34 rfl rfl ⟨rfl, rfl⟩
theorem bzX6_areRunners (p0 : Int32) (p1 : Int32) (p2 : Int32) : narrow .boolean (.int (fX6_areRunners p0 p1 p2)) = .int (fX6_areRunners p0 p1 p2) := by
  unfold fX6_areRunners
  repeat' split
  all_goals first | rfl | exact (bzX6_within p0 (1 : Int32) (20 : Int32)) | exact (bzX6_within p1 (0 : Int32) (10 : Int32)) | exact (bzX6_within p2 (0 : Int32) (1 : Int32))
theorem hdX4_tenths : yX4_tenths.cls ≠ "java/lang/invoke/MethodHandle" ∧ yX4_tenths.cls ≠ "java/lang/invoke/VarHandle" ∧ (parseMethodDescriptor yX4_tenths.desc).map (fun d => d.parameters.length) = some 4 := by decide +kernel
theorem eX4_tenths_0 : Dc cX4_tenths 0 (.aload_n 0) 1 1 := ⟨by decide +kernel, rfl⟩
theorem eX4_tenths_1 : Dc cX4_tenths 1 (.getfield 9) 3 4 := ⟨by decide +kernel, rfl⟩
theorem eX4_tenths_4 : Dc cX4_tenths 4 (.iload_n 1) 1 5 := ⟨by decide +kernel, rfl⟩
theorem eX4_tenths_5 : Dc cX4_tenths 5 (.iaload) 1 6 := ⟨by decide +kernel, rfl⟩
theorem eX4_tenths_6 : Dc cX4_tenths 6 (.iload_n 2) 1 7 := ⟨by decide +kernel, rfl⟩
theorem eX4_tenths_7 : Dc cX4_tenths 7 (.if_icmp .gt 11) 3 10 := ⟨by decide +kernel, rfl⟩
theorem eX4_tenths_10 : Dc cX4_tenths 10 (.bipush 10) 2 12 := ⟨by decide +kernel, rfl⟩
theorem eX4_tenths_12 : Dc cX4_tenths 12 (.iload 4) 2 14 := ⟨by decide +kernel, rfl⟩
theorem eX4_tenths_14 : Dc cX4_tenths 14 (.isub) 1 15 := ⟨by decide +kernel, rfl⟩
theorem eX4_tenths_15 : Dc cX4_tenths 15 (.goto 4) 3 18 := ⟨by decide +kernel, rfl⟩
theorem eX4_tenths_18 : Dc cX4_tenths 18 (.iconst 0) 1 19 := ⟨by decide +kernel, rfl⟩
theorem eX4_tenths_19 : Dc cX4_tenths 19 (.istore 5) 2 21 := ⟨by decide +kernel, rfl⟩
theorem eX4_tenths_21 : Dc cX4_tenths 21 (.aload_n 0) 1 22 := ⟨by decide +kernel, rfl⟩
theorem eX4_tenths_22 : Dc cX4_tenths 22 (.getfield 9) 3 25 := ⟨by decide +kernel, rfl⟩
theorem eX4_tenths_25 : Dc cX4_tenths 25 (.iload_n 1) 1 26 := ⟨by decide +kernel, rfl⟩
theorem eX4_tenths_26 : Dc cX4_tenths 26 (.iaload) 1 27 := ⟨by decide +kernel, rfl⟩
theorem eX4_tenths_27 : Dc cX4_tenths 27 (.iload_n 3) 1 28 := ⟨by decide +kernel, rfl⟩
theorem eX4_tenths_28 : Dc cX4_tenths 28 (.iadd) 1 29 := ⟨by decide +kernel, rfl⟩
theorem eX4_tenths_29 : Dc cX4_tenths 29 (.iload_n 2) 1 30 := ⟨by decide +kernel, rfl⟩
theorem eX4_tenths_30 : Dc cX4_tenths 30 (.if_icmp .gt 8) 3 33 := ⟨by decide +kernel, rfl⟩
theorem eX4_tenths_33 : Dc cX4_tenths 33 (.iload 4) 2 35 := ⟨by decide +kernel, rfl⟩
theorem eX4_tenths_35 : Dc cX4_tenths 35 (.goto 4) 3 38 := ⟨by decide +kernel, rfl⟩
theorem eX4_tenths_38 : Dc cX4_tenths 38 (.iconst 0) 1 39 := ⟨by decide +kernel, rfl⟩
theorem eX4_tenths_39 : Dc cX4_tenths 39 (.istore 6) 2 41 := ⟨by decide +kernel, rfl⟩
theorem eX4_tenths_41 : Dc cX4_tenths 41 (.iload 5) 2 43 := ⟨by decide +kernel, rfl⟩
theorem eX4_tenths_43 : Dc cX4_tenths 43 (.iload 6) 2 45 := ⟨by decide +kernel, rfl⟩
theorem eX4_tenths_45 : Dc cX4_tenths 45 (.iadd) 1 46 := ⟨by decide +kernel, rfl⟩
theorem eX4_tenths_46 : Dc cX4_tenths 46 (.ireturn) 1 47 := ⟨by decide +kernel, rfl⟩
def fX4_tenths (c : SS) (p1 : Int32) (p2 : Int32) (p3 : Int32) (p4 : Int32) : Option (Int32) := ald 8 (c.2 8) p1 (fun v1 => jn (fun (x2 : Int32) => ald 8 (c.2 8) p1 (fun v3 => jn (fun (x4 : Int32) => some (x2 + x4)) (fun j39 => if p2 < (v3 + p3) then j39 (0 : Int32) else j39 p4))) (fun j19 => if p2 < v1 then j19 (0 : Int32) else j19 ((10 : Int32) - p4)))
set_option maxRecDepth 20000 in
theorem ctX4_tenths (l : Launch) (G : tg_G) (A : Nat → Nat) (c : SS) (p1 : Int32) (p2 : Int32) (p3 : Int32) (p4 : Int32) {z : Int32} (h : fX4_tenths c p1 p2 p3 p4 = some z) : Mt l G yX4_tenths cX4_tenths 7 (some .int) (tg_R 0 0) [.ref (A 11), .int p1, .int p2, .int p3, .int p4] (wC G A c) (fun v w1 => v = some (.int z) ∧ w1 = wC G A c) := by
  refine Mt_of2 (own := "TramGod$Slack") (nm := "tenths") rfl rfl rfl (Nat.le_of_ble_eq_true rfl) (lv := [(0, .ref (A 11)), (1, .int p1), (2, .int p2), (3, .int p3), (4, .int p4)]) rfl ?_
  unfold fX4_tenths at h
  refine V_aload_n eX4_tenths_0 0 rfl ?_
  refine V_get (v := .ref (A 12)) eX4_tenths_1 inX4 11 rfl rfl 1 (Nat.le_of_ble_eq_true rfl) tw_120 rfl ?_
  refine V_iload_n eX4_tenths_4 1 rfl ?_
  obtain ⟨v1, hi1, ev1, h⟩ := ald_some h
  refine V_ialdv eX4_tenths_5 12 rfl hi1 ev1 ?_
  refine V_iload_n eX4_tenths_6 2 rfl ?_
  refine jn_elim h (fun j => ∀ (x2 : Int32), j x2 = some z → V l G (tg_Zm G (fun v w1 => v = some (.int z) ∧ w1 = wC G A c) 0 0) tg_E0 (tg_R 0 0) "TramGod$Slack" "tenths" cX4_tenths 7 (some .int) 19 [(0, .ref (A 11)), (1, .int p1), (2, .int p2), (3, .int p3), (4, .int p4)] [.int x2] (wC G A c) 0 0) ?_ (fun j19 hj19 h => ?_)
  · intro x2 h
    refine V_istore (lv' := [(5, .int x2), (0, .ref (A 11)), (1, .int p1), (2, .int p2), (3, .int p3), (4, .int p4)]) eX4_tenths_19 (Nat.le_of_ble_eq_true rfl) rfl ?_
    refine V_aload_n eX4_tenths_21 1 rfl ?_
    refine V_get (v := .ref (A 12)) eX4_tenths_22 inX4 11 rfl rfl 1 (Nat.le_of_ble_eq_true rfl) tw_120 rfl ?_
    refine V_iload_n eX4_tenths_25 2 rfl ?_
    obtain ⟨v3, hi3, ev3, h⟩ := ald_some h
    refine V_ialdv eX4_tenths_26 12 rfl hi3 ev3 ?_
    refine V_iload_n eX4_tenths_27 4 rfl ?_
    refine V_iadd eX4_tenths_28 ?_
    refine V_iload_n eX4_tenths_29 3 rfl ?_
    refine jn_elim h (fun j => ∀ (x4 : Int32), j x4 = some z → V l G (tg_Zm G (fun v w1 => v = some (.int z) ∧ w1 = wC G A c) 0 0) tg_E0 (tg_R 0 0) "TramGod$Slack" "tenths" cX4_tenths 7 (some .int) 39 [(5, .int x2)] [.int x4] (wC G A c) 0 0) ?_ (fun j39 hj39 h => ?_)
    · intro x4 h
      refine V_istore (lv' := [(6, .int x4), (5, .int x2)]) eX4_tenths_39 (Nat.le_of_ble_eq_true rfl) rfl ?_
      refine V_iload eX4_tenths_41 1 rfl ?_
      refine V_iload eX4_tenths_43 0 rfl ?_
      refine V_iadd eX4_tenths_45 ?_
      obtain rfl := Option.some.inj h
      exact V_ret eX4_tenths_46 rfl ⟨rfl, rfl⟩
    refine V_icmp_gt (tgt := 38) eX4_tenths_30 rfl (fun hb5 => ?_) (fun hb5 => ?_)
    · replace h := (if_pos hb5).symm.trans h
      refine V_iconst (v := (0 : Int32)) eX4_tenths_38 rfl ?_
      refine V_lv (lv' := [(5, .int x2)]) [0] rfl ?_
      exact hj39 (0 : Int32) h
    · replace h := (if_neg hb5).symm.trans h
      refine V_iload eX4_tenths_33 5 rfl ?_
      refine V_goto (tgt := 39) eX4_tenths_35 rfl ?_
      refine V_lv (lv' := [(5, .int x2)]) [0] rfl ?_
      exact hj39 p4 h
  refine V_icmp_gt (tgt := 18) eX4_tenths_7 rfl (fun hb6 => ?_) (fun hb6 => ?_)
  · replace h := (if_pos hb6).symm.trans h
    refine V_iconst (v := (0 : Int32)) eX4_tenths_18 rfl ?_
    exact hj19 (0 : Int32) h
  · replace h := (if_neg hb6).symm.trans h
    refine V_bipush (v := (10 : Int32)) eX4_tenths_10 rfl ?_
    refine V_iload eX4_tenths_12 4 rfl ?_
    refine V_isub eX4_tenths_14 ?_
    refine V_goto (tgt := 19) eX4_tenths_15 rfl ?_
    exact hj19 ((10 : Int32) - p4) h
theorem hdX6_partOf : yX6_partOf.cls ≠ "java/lang/invoke/MethodHandle" ∧ yX6_partOf.cls ≠ "java/lang/invoke/VarHandle" ∧ (parseMethodDescriptor yX6_partOf.desc).map (fun d => d.parameters.length) = some 3 := by decide +kernel
theorem eX6_partOf_0 : Dc cX6_partOf 0 (.iload_n 0) 1 1 := ⟨by decide +kernel, rfl⟩
theorem eX6_partOf_1 : Dc cX6_partOf 1 (.invokestatic 281) 3 4 := ⟨by decide +kernel, rfl⟩
theorem eX6_partOf_4 : Dc cX6_partOf 4 (.istore_n 3) 1 5 := ⟨by decide +kernel, rfl⟩
theorem eX6_partOf_5 : Dc cX6_partOf 5 (.iload_n 1) 1 6 := ⟨by decide +kernel, rfl⟩
theorem eX6_partOf_6 : Dc cX6_partOf 6 (.istore 4) 2 8 := ⟨by decide +kernel, rfl⟩
theorem eX6_partOf_8 : Dc cX6_partOf 8 (.iconst 0) 1 9 := ⟨by decide +kernel, rfl⟩
theorem eX6_partOf_9 : Dc cX6_partOf 9 (.istore 5) 2 11 := ⟨by decide +kernel, rfl⟩
theorem eX6_partOf_11 : Dc cX6_partOf 11 (.iload 5) 2 13 := ⟨by decide +kernel, rfl⟩
theorem eX6_partOf_13 : Dc cX6_partOf 13 (.bipush 100) 2 15 := ⟨by decide +kernel, rfl⟩
theorem eX6_partOf_15 : Dc cX6_partOf 15 (.if_icmp .ge 25) 3 18 := ⟨by decide +kernel, rfl⟩
theorem eX6_partOf_18 : Dc cX6_partOf 18 (.iload_n 3) 1 19 := ⟨by decide +kernel, rfl⟩
theorem eX6_partOf_19 : Dc cX6_partOf 19 (.ifCond .eq 21) 3 22 := ⟨by decide +kernel, rfl⟩
theorem eX6_partOf_22 : Dc cX6_partOf 22 (.iload 4) 2 24 := ⟨by decide +kernel, rfl⟩
theorem eX6_partOf_24 : Dc cX6_partOf 24 (.iload_n 3) 1 25 := ⟨by decide +kernel, rfl⟩
theorem eX6_partOf_25 : Dc cX6_partOf 25 (.irem) 1 26 := ⟨by decide +kernel, rfl⟩
theorem eX6_partOf_26 : Dc cX6_partOf 26 (.istore 6) 2 28 := ⟨by decide +kernel, rfl⟩
theorem eX6_partOf_28 : Dc cX6_partOf 28 (.iload_n 3) 1 29 := ⟨by decide +kernel, rfl⟩
theorem eX6_partOf_29 : Dc cX6_partOf 29 (.istore 4) 2 31 := ⟨by decide +kernel, rfl⟩
theorem eX6_partOf_31 : Dc cX6_partOf 31 (.iload 6) 2 33 := ⟨by decide +kernel, rfl⟩
theorem eX6_partOf_33 : Dc cX6_partOf 33 (.istore_n 3) 1 34 := ⟨by decide +kernel, rfl⟩
theorem eX6_partOf_34 : Dc cX6_partOf 34 (.iinc 5 1) 3 37 := ⟨by decide +kernel, rfl⟩
theorem eX6_partOf_37 : Dc cX6_partOf 37 (.goto (-26)) 3 40 := ⟨by decide +kernel, rfl⟩
theorem eX6_partOf_40 : Dc cX6_partOf 40 (.iload 4) 2 42 := ⟨by decide +kernel, rfl⟩
theorem eX6_partOf_42 : Dc cX6_partOf 42 (.ifCond .ne 5) 3 45 := ⟨by decide +kernel, rfl⟩
theorem eX6_partOf_45 : Dc cX6_partOf 45 (.lconst 0) 1 46 := ⟨by decide +kernel, rfl⟩
theorem eX6_partOf_46 : Dc cX6_partOf 46 (.lreturn) 1 47 := ⟨by decide +kernel, rfl⟩
theorem eX6_partOf_47 : Dc cX6_partOf 47 (.iload_n 2) 1 48 := ⟨by decide +kernel, rfl⟩
theorem eX6_partOf_48 : Dc cX6_partOf 48 (.ifCond .ne 11) 3 51 := ⟨by decide +kernel, rfl⟩
theorem eX6_partOf_51 : Dc cX6_partOf 51 (.iload_n 0) 1 52 := ⟨by decide +kernel, rfl⟩
theorem eX6_partOf_52 : Dc cX6_partOf 52 (.iload 4) 2 54 := ⟨by decide +kernel, rfl⟩
theorem eX6_partOf_54 : Dc cX6_partOf 54 (.idiv) 1 55 := ⟨by decide +kernel, rfl⟩
theorem eX6_partOf_55 : Dc cX6_partOf 55 (.i2l) 1 56 := ⟨by decide +kernel, rfl⟩
theorem eX6_partOf_56 : Dc cX6_partOf 56 (.goto 8) 3 59 := ⟨by decide +kernel, rfl⟩
theorem eX6_partOf_59 : Dc cX6_partOf 59 (.iload_n 1) 1 60 := ⟨by decide +kernel, rfl⟩
theorem eX6_partOf_60 : Dc cX6_partOf 60 (.iload 4) 2 62 := ⟨by decide +kernel, rfl⟩
theorem eX6_partOf_62 : Dc cX6_partOf 62 (.idiv) 1 63 := ⟨by decide +kernel, rfl⟩
theorem eX6_partOf_63 : Dc cX6_partOf 63 (.i2l) 1 64 := ⟨by decide +kernel, rfl⟩
theorem eX6_partOf_64 : Dc cX6_partOf 64 (.lreturn) 1 65 := ⟨by decide +kernel, rfl⟩
def fX6_partOf_L11 (k : Int32 → Option (Int64)) (a0 : Int32) (a1 : Int32) (a2 : Int32) : Nat → Int32 → Int32 → Int32 → Option (Int64)
  | 0, _, _, _ => none
  | n + 1, a3, a4, a5 => if (100 : Int32) ≤ a5 then k a4 else if a3 = (0 : Int32) then k a4 else dvz a3 (fX6_partOf_L11 k a0 a1 a2 n (irm a4 a3) a3 (a5 + (1 : Int32)))
def fX6_partOf (p0 : Int32) (p1 : Int32) (p2 : Int32) : Option (Int64) := fX6_partOf_L11 (fun (x4 : Int32) => if x4 = (0 : Int32) then some (0 : Int64) else if p2 = (0 : Int32) then dvz x4 (some ((p0 / x4)).toInt64) else dvz x4 (some ((p1 / x4)).toInt64)) p0 p1 p2 fu (mabs p0) p1 (0 : Int32)
set_option maxRecDepth 20000 in
theorem ctX6_partOf_L11 (l : Launch) (G : tg_G) (w : va_W) (k : Int32 → Option (Int64)) (a0 : Int32) (a1 : Int32) (a2 : Int32) {z : Int64} (hk : ∀ (e4 : Int32), k e4 = some z → V l G (tg_Zm G (fun v w1 => v = some (.long z) ∧ w1 = w) 0 0) tg_E0 (tg_R 1 21) "TramGod" "partOf" cX6_partOf 7 (some .long) 40 [(0, .int a0), (1, .int a1), (2, .int a2), (4, .int e4)] [] (w) 0 0) : ∀ (n : Nat) (a3 : Int32) (a4 : Int32) (a5 : Int32), fX6_partOf_L11 k a0 a1 a2 n a3 a4 a5 = some z → V l G (tg_Zm G (fun v w1 => v = some (.long z) ∧ w1 = w) 0 0) tg_E0 (tg_R 1 21) "TramGod" "partOf" cX6_partOf 7 (some .long) 11 [(0, .int a0), (1, .int a1), (2, .int a2), (3, .int a3), (4, .int a4), (5, .int a5)] [] (w) 0 0 := by
  intro n
  induction n with
  | zero => intro a3 a4 a5 h; exact absurd h (by simp [fX6_partOf_L11])
  | succ n ih =>
    intro a3 a4 a5 h
    unfold fX6_partOf_L11 at h
    refine V_iload eX6_partOf_11 5 rfl ?_
    refine V_bipush (v := (100 : Int32)) eX6_partOf_13 rfl ?_
    refine V_icmp_ge (tgt := 40) eX6_partOf_15 rfl (fun hb1 => ?_) (fun hb1 => ?_)
    · replace h := (if_pos hb1).symm.trans h
      refine V_lv (lv' := [(0, .int a0), (1, .int a1), (2, .int a2), (4, .int a4)]) [0, 1, 2, 4] rfl ?_
      exact hk a4 h
    · replace h := (if_neg hb1).symm.trans h
      refine V_iload_n eX6_partOf_18 3 rfl ?_
      refine V_if_eq (tgt := 40) eX6_partOf_19 rfl (fun hb2 => ?_) (fun hb2 => ?_)
      · replace h := (if_pos hb2).symm.trans h
        refine V_lv (lv' := [(0, .int a0), (1, .int a1), (2, .int a2), (4, .int a4)]) [0, 1, 2, 4] rfl ?_
        exact hk a4 h
      · replace h := (if_neg hb2).symm.trans h
        refine V_iload eX6_partOf_22 4 rfl ?_
        refine V_iload_n eX6_partOf_24 3 rfl ?_
        obtain ⟨hz3, h⟩ := dvz_some h
        refine V_irem eX6_partOf_25 hz3 ?_
        refine V_istore (lv' := [(6, .int (irm a4 a3)), (0, .int a0), (1, .int a1), (2, .int a2), (3, .int a3), (4, .int a4), (5, .int a5)]) eX6_partOf_26 (Nat.le_of_ble_eq_true rfl) rfl ?_
        refine V_iload_n eX6_partOf_28 4 rfl ?_
        refine V_istore (lv' := [(4, .int a3), (6, .int (irm a4 a3)), (0, .int a0), (1, .int a1), (2, .int a2), (3, .int a3), (5, .int a5)]) eX6_partOf_29 (Nat.le_of_ble_eq_true rfl) rfl ?_
        refine V_iload eX6_partOf_31 1 rfl ?_
        refine V_istore_n (lv' := [(3, .int (irm a4 a3)), (4, .int a3), (6, .int (irm a4 a3)), (0, .int a0), (1, .int a1), (2, .int a2), (5, .int a5)]) eX6_partOf_33 (Nat.le_of_ble_eq_true rfl) rfl ?_
        refine V_iinc (v := (a5 + (1 : Int32))) (lv' := [(5, .int (a5 + (1 : Int32))), (3, .int (irm a4 a3)), (4, .int a3), (6, .int (irm a4 a3)), (0, .int a0), (1, .int a1), (2, .int a2)]) eX6_partOf_34 6 rfl rfl (Nat.le_of_ble_eq_true rfl) rfl ?_
        refine V_goto (tgt := 11) eX6_partOf_37 rfl ?_
        refine V_lv (lv' := [(0, .int a0), (1, .int a1), (2, .int a2), (3, .int (irm a4 a3)), (4, .int a3), (5, .int (a5 + (1 : Int32)))]) [4, 5, 6, 1, 2, 0] rfl ?_
        exact ih (irm a4 a3) a3 (a5 + (1 : Int32)) h
set_option maxRecDepth 20000 in
theorem ctX6_partOf (l : Launch) (G : tg_G) (w : va_W) (p0 : Int32) (p1 : Int32) (p2 : Int32) {z : Int64} (h : fX6_partOf p0 p1 p2 = some z) : Mt l G yX6_partOf cX6_partOf 7 (some .long) (tg_R 1 21) [.int p0, .int p1, .int p2] (w) (fun v w1 => v = some (.long z) ∧ w1 = w) := by
  refine Mt_of2 (own := "TramGod") (nm := "partOf") rfl rfl rfl (Nat.le_of_ble_eq_true rfl) (lv := [(0, .int p0), (1, .int p1), (2, .int p2)]) rfl ?_
  unfold fX6_partOf at h
  refine V_iload_n eX6_partOf_0 0 rfl ?_
  refine V_mabs (rest := []) eX6_partOf_1 tw_595 tw_596 tw_9 tc_597 (Nat.le_of_ble_eq_true rfl) (Nat.le_of_ble_eq_true rfl) ⟨Nat.zero_le _, Nat.zero_le _⟩ ?_
  refine V_istore_n (lv' := [(3, .int (mabs p0)), (0, .int p0), (1, .int p1), (2, .int p2)]) eX6_partOf_4 (Nat.le_of_ble_eq_true rfl) rfl ?_
  refine V_iload_n eX6_partOf_5 2 rfl ?_
  refine V_istore (lv' := [(4, .int p1), (3, .int (mabs p0)), (0, .int p0), (1, .int p1), (2, .int p2)]) eX6_partOf_6 (Nat.le_of_ble_eq_true rfl) rfl ?_
  refine V_iconst (v := (0 : Int32)) eX6_partOf_8 rfl ?_
  refine V_istore (lv' := [(5, .int (0 : Int32)), (4, .int p1), (3, .int (mabs p0)), (0, .int p0), (1, .int p1), (2, .int p2)]) eX6_partOf_9 (Nat.le_of_ble_eq_true rfl) rfl ?_
  refine V_lv (lv' := [(0, .int p0), (1, .int p1), (2, .int p2), (3, .int (mabs p0)), (4, .int p1), (5, .int (0 : Int32))]) [3, 4, 5, 2, 1, 0] rfl ?_
  refine ctX6_partOf_L11 l G _ _ p0 p1 p2 ?_ fu (mabs p0) p1 (0 : Int32) h
  · intro x4 h
    refine V_iload eX6_partOf_40 3 rfl ?_
    refine V_if_ne (tgt := 47) eX6_partOf_42 rfl (fun hb5 => ?_) (fun hb5 => ?_)
    · replace h := (if_neg hb5).symm.trans h
      refine V_iload_n eX6_partOf_47 2 rfl ?_
      refine V_if_ne (tgt := 59) eX6_partOf_48 rfl (fun hb6 => ?_) (fun hb6 => ?_)
      · replace h := (if_neg hb6).symm.trans h
        refine V_iload_n eX6_partOf_59 1 rfl ?_
        refine V_iload eX6_partOf_60 3 rfl ?_
        obtain ⟨hz7, h⟩ := dvz_some h
        refine V_idiv eX6_partOf_62 hz7 ?_
        refine V_i2l eX6_partOf_63 ?_
        obtain rfl := Option.some.inj h
        exact V_lret eX6_partOf_64 rfl ⟨rfl, rfl⟩
      · replace h := (if_pos hb6).symm.trans h
        refine V_iload_n eX6_partOf_51 0 rfl ?_
        refine V_iload eX6_partOf_52 3 rfl ?_
        obtain ⟨hz8, h⟩ := dvz_some h
        refine V_idiv eX6_partOf_54 hz8 ?_
        refine V_i2l eX6_partOf_55 ?_
        refine V_goto (tgt := 64) eX6_partOf_56 rfl ?_
        obtain rfl := Option.some.inj h
        exact V_lret eX6_partOf_64 rfl ⟨rfl, rfl⟩
    · replace h := (if_pos hb5).symm.trans h
      refine V_lconst (v := (0 : Int64)) eX6_partOf_45 rfl ?_
      obtain rfl := Option.some.inj h
      exact V_lret eX6_partOf_46 rfl ⟨rfl, rfl⟩
theorem hdX6_runs : yX6_runs.cls ≠ "java/lang/invoke/MethodHandle" ∧ yX6_runs.cls ≠ "java/lang/invoke/VarHandle" ∧ (parseMethodDescriptor yX6_runs.desc).map (fun d => d.parameters.length) = some 4 := by decide +kernel
theorem eX6_runs_0 : Dc cX6_runs 0 (.aload_n 0) 1 1 := ⟨by decide +kernel, rfl⟩
theorem eX6_runs_1 : Dc cX6_runs 1 (.getfield 19) 3 4 := ⟨by decide +kernel, rfl⟩
theorem eX6_runs_4 : Dc cX6_runs 4 (.iload_n 1) 1 5 := ⟨by decide +kernel, rfl⟩
theorem eX6_runs_5 : Dc cX6_runs 5 (.invokevirtual 127) 3 8 := ⟨by decide +kernel, rfl⟩
theorem eX6_runs_8 : Dc cX6_runs 8 (.ifCond .ne 7) 3 11 := ⟨by decide +kernel, rfl⟩
theorem eX6_runs_11 : Dc cX6_runs 11 (.ldc2_w 240) 3 14 := ⟨by decide +kernel, rfl⟩
theorem eX6_runs_14 : Dc cX6_runs 14 (.lreturn) 1 15 := ⟨by decide +kernel, rfl⟩
theorem eX6_runs_15 : Dc cX6_runs 15 (.iload_n 2) 1 16 := ⟨by decide +kernel, rfl⟩
theorem eX6_runs_16 : Dc cX6_runs 16 (.iload_n 3) 1 17 := ⟨by decide +kernel, rfl⟩
theorem eX6_runs_17 : Dc cX6_runs 17 (.iload 4) 2 19 := ⟨by decide +kernel, rfl⟩
theorem eX6_runs_19 : Dc cX6_runs 19 (.invokestatic 242) 3 22 := ⟨by decide +kernel, rfl⟩
theorem eX6_runs_22 : Dc cX6_runs 22 (.ifCond .ne 7) 3 25 := ⟨by decide +kernel, rfl⟩
theorem eX6_runs_25 : Dc cX6_runs 25 (.ldc2_w 245) 3 28 := ⟨by decide +kernel, rfl⟩
theorem eX6_runs_28 : Dc cX6_runs 28 (.lreturn) 1 29 := ⟨by decide +kernel, rfl⟩
theorem eX6_runs_29 : Dc cX6_runs 29 (.aload_n 0) 1 30 := ⟨by decide +kernel, rfl⟩
theorem eX6_runs_30 : Dc cX6_runs 30 (.invokevirtual 147) 3 33 := ⟨by decide +kernel, rfl⟩
theorem eX6_runs_33 : Dc cX6_runs 33 (.ifCond .ne 7) 3 36 := ⟨by decide +kernel, rfl⟩
theorem eX6_runs_36 : Dc cX6_runs 36 (.ldc2_w 247) 3 39 := ⟨by decide +kernel, rfl⟩
theorem eX6_runs_39 : Dc cX6_runs 39 (.lreturn) 1 40 := ⟨by decide +kernel, rfl⟩
theorem eX6_runs_40 : Dc cX6_runs 40 (.aload_n 0) 1 41 := ⟨by decide +kernel, rfl⟩
theorem eX6_runs_41 : Dc cX6_runs 41 (.getfield 32) 3 44 := ⟨by decide +kernel, rfl⟩
theorem eX6_runs_44 : Dc cX6_runs 44 (.iload_n 1) 1 45 := ⟨by decide +kernel, rfl⟩
theorem eX6_runs_45 : Dc cX6_runs 45 (.aload_n 0) 1 46 := ⟨by decide +kernel, rfl⟩
theorem eX6_runs_46 : Dc cX6_runs 46 (.getfield 65) 3 49 := ⟨by decide +kernel, rfl⟩
theorem eX6_runs_49 : Dc cX6_runs 49 (.aload_n 0) 1 50 := ⟨by decide +kernel, rfl⟩
theorem eX6_runs_50 : Dc cX6_runs 50 (.getfield 19) 3 53 := ⟨by decide +kernel, rfl⟩
theorem eX6_runs_53 : Dc cX6_runs 53 (.getfield 103) 3 56 := ⟨by decide +kernel, rfl⟩
theorem eX6_runs_56 : Dc cX6_runs 56 (.iload_n 1) 1 57 := ⟨by decide +kernel, rfl⟩
theorem eX6_runs_57 : Dc cX6_runs 57 (.iaload) 1 58 := ⟨by decide +kernel, rfl⟩
theorem eX6_runs_58 : Dc cX6_runs 58 (.iaload) 1 59 := ⟨by decide +kernel, rfl⟩
theorem eX6_runs_59 : Dc cX6_runs 59 (.iload_n 2) 1 60 := ⟨by decide +kernel, rfl⟩
theorem eX6_runs_60 : Dc cX6_runs 60 (.iload_n 3) 1 61 := ⟨by decide +kernel, rfl⟩
theorem eX6_runs_61 : Dc cX6_runs 61 (.invokevirtual 249) 3 64 := ⟨by decide +kernel, rfl⟩
theorem eX6_runs_64 : Dc cX6_runs 64 (.bipush 10) 2 66 := ⟨by decide +kernel, rfl⟩
theorem eX6_runs_66 : Dc cX6_runs 66 (.iload 4) 2 68 := ⟨by decide +kernel, rfl⟩
theorem eX6_runs_68 : Dc cX6_runs 68 (.invokestatic 253) 3 71 := ⟨by decide +kernel, rfl⟩
theorem eX6_runs_71 : Dc cX6_runs 71 (.lreturn) 1 72 := ⟨by decide +kernel, rfl⟩
def fX6_runs (c : SS) (p1 : Int32) (p2 : Int32) (p3 : Int32) (p4 : Int32) : Option (Int64 × SS) := if (fX5_isPerson c p1) = (0 : Int32) then some ((-1000000000000000001 : Int64), c) else if (fX6_areRunners p2 p3 p4) = (0 : Int32) then some ((-1000000000000000002 : Int64), c) else Option.bind (fX6_readGoodHold c) (fun q3 => if q3.1 = (0 : Int32) then some ((-1000000000000000005 : Int64), q3.2) else ald 8 (q3.2.2 2) p1 (fun v5 => ald 6 (q3.2.2 20) v5 (fun v6 => Option.bind (fX4_tenths q3.2 p1 v6 p2 p3) (fun q7 => Option.bind (fX6_partOf q7 (10 : Int32) p4) (fun q8 => some (q8, q3.2))))))
set_option maxRecDepth 20000 in
theorem ctX6_runs (l : Launch) (G : tg_G) (A : Nat → Nat) (c : SS) (p1 : Int32) (p2 : Int32) (p3 : Int32) (p4 : Int32) {z : Int64 × SS} (h : fX6_runs c p1 p2 p3 p4 = some z) : Mt l G yX6_runs cX6_runs 5 (some .long) (tg_R 4 87) [.ref (A 0), .int p1, .int p2, .int p3, .int p4] (wC G A c) (fun v w1 => v = some (.long z.1) ∧ w1 = wC G A z.2) := by
  refine Mt_of2 (own := "TramGod") (nm := "runs") rfl rfl rfl (Nat.le_of_ble_eq_true rfl) (lv := [(0, .ref (A 0)), (1, .int p1), (2, .int p2), (3, .int p3), (4, .int p4)]) rfl ?_
  unfold fX6_runs at h
  refine V_aload_n eX6_runs_0 0 rfl ?_
  refine V_get (v := .ref (A 3)) eX6_runs_1 inX6 0 rfl rfl 1 (Nat.le_of_ble_eq_true rfl) tw_208 rfl ?_
  refine V_iload_n eX6_runs_4 1 rfl ?_
  refine V_callVi (rest := []) eX6_runs_5 (ctX5_isPerson l G A c p1 rfl) tc_311 tw_308 tw_3 tw_309 tw_310 3 rfl rfl hdX5_isPerson rfl ⟨Nat.le_of_ble_eq_true rfl, Nat.le_of_ble_eq_true rfl⟩ rfl (Nat.le_of_ble_eq_true rfl) ⟨Nat.zero_le _, Nat.zero_le _⟩ ?_
  refine V_if_ne (tgt := 15) eX6_runs_8 rfl (fun hb1 => ?_) (fun hb1 => ?_)
  · replace h := (if_neg hb1).symm.trans h
    refine V_iload_n eX6_runs_15 2 rfl ?_
    refine V_iload_n eX6_runs_16 3 rfl ?_
    refine V_iload eX6_runs_17 4 rfl ?_
    refine V_callSi (rest := []) eX6_runs_19 (ctX6_areRunners l G _ p2 p3 p4 rfl) tc_585 tw_583 tw_1 tw_584 hdX6_areRunners rfl ⟨Nat.le_of_ble_eq_true rfl, Nat.le_of_ble_eq_true rfl⟩ rfl (Nat.le_of_ble_eq_true rfl) ⟨Nat.zero_le _, Nat.zero_le _⟩ ?_
    refine V_if_ne (tgt := 29) eX6_runs_22 rfl (fun hb2 => ?_) (fun hb2 => ?_)
    · replace h := (if_neg hb2).symm.trans h
      refine V_aload_n eX6_runs_29 0 rfl ?_
      obtain ⟨q3, hc3, h⟩ := Option.bind_eq_some_iff.mp h
      refine V_callVi (rest := []) eX6_runs_30 (ctX6_readGoodHold l G A c hc3) tc_348 tw_345 tw_1 tw_347 ts_3 0 rfl rfl hdX6_readGoodHold rfl ⟨Nat.le_of_ble_eq_true rfl, Nat.le_of_ble_eq_true rfl⟩ rfl (Nat.le_of_ble_eq_true rfl) ⟨Nat.zero_le _, Nat.zero_le _⟩ ?_
      refine V_if_ne (tgt := 40) eX6_runs_33 rfl (fun hb4 => ?_) (fun hb4 => ?_)
      · replace h := (if_neg hb4).symm.trans h
        refine V_aload_n eX6_runs_40 0 rfl ?_
        refine V_get (v := .ref (A 11)) eX6_runs_41 inX6 0 rfl rfl 3 (Nat.le_of_ble_eq_true rfl) tw_210 rfl ?_
        refine V_iload_n eX6_runs_44 1 rfl ?_
        refine V_aload_n eX6_runs_45 0 rfl ?_
        refine V_get (v := .ref (A 27)) eX6_runs_46 inX6 0 rfl rfl 8 (Nat.le_of_ble_eq_true rfl) tw_215 rfl ?_
        refine V_aload_n eX6_runs_49 0 rfl ?_
        refine V_get (v := .ref (A 3)) eX6_runs_50 inX6 0 rfl rfl 1 (Nat.le_of_ble_eq_true rfl) tw_208 rfl ?_
        refine V_get (v := .ref (A 5)) eX6_runs_53 inX5 3 rfl rfl 9 (Nat.le_of_ble_eq_true rfl) tw_67 rfl ?_
        refine V_iload_n eX6_runs_56 1 rfl ?_
        obtain ⟨v5, hi5, ev5, h⟩ := ald_some h
        refine V_ialdv eX6_runs_57 5 rfl hi5 ev5 ?_
        obtain ⟨v6, hi6, ev6, h⟩ := ald_some h
        refine V_ialdv eX6_runs_58 27 rfl hi6 ev6 ?_
        refine V_iload_n eX6_runs_59 2 rfl ?_
        refine V_iload_n eX6_runs_60 3 rfl ?_
        obtain ⟨q7, hc7, h⟩ := Option.bind_eq_some_iff.mp h
        refine V_callVi (rest := []) eX6_runs_61 (ctX4_tenths l G A q3.2 p1 v6 p2 p3 hc7) tc_591 tw_588 tw_4 tw_589 tw_590 11 rfl rfl hdX4_tenths rfl ⟨Nat.le_of_ble_eq_true rfl, Nat.le_of_ble_eq_true rfl⟩ rfl (Nat.le_of_ble_eq_true rfl) ⟨Nat.zero_le _, Nat.zero_le _⟩ ?_
        refine V_bipush (v := (10 : Int32)) eX6_runs_64 rfl ?_
        refine V_iload eX6_runs_66 4 rfl ?_
        obtain ⟨q8, hc8, h⟩ := Option.bind_eq_some_iff.mp h
        refine V_callSl (rest := []) eX6_runs_68 (ctX6_partOf l G _ q7 (10 : Int32) p4 hc8) tc_594 tw_592 tw_1 tw_593 hdX6_partOf rfl ⟨Nat.le_of_ble_eq_true rfl, Nat.le_of_ble_eq_true rfl⟩ rfl (Nat.le_of_ble_eq_true rfl) ⟨Nat.zero_le _, Nat.zero_le _⟩ ?_
        obtain rfl := Option.some.inj h
        exact V_lret eX6_runs_71 rfl ⟨rfl, rfl⟩
      · replace h := (if_pos hb4).symm.trans h
        refine V_ldc2 eX6_runs_36 tw_587 ?_
        obtain rfl := Option.some.inj h
        exact V_lret eX6_runs_39 rfl ⟨rfl, rfl⟩
    · replace h := (if_pos hb2).symm.trans h
      refine V_ldc2 eX6_runs_25 tw_586 ?_
      obtain rfl := Option.some.inj h
      exact V_lret eX6_runs_28 rfl ⟨rfl, rfl⟩
  · replace h := (if_pos hb1).symm.trans h
    refine V_ldc2 eX6_runs_11 tw_582 ?_
    obtain rfl := Option.some.inj h
    exact V_lret eX6_runs_14 rfl ⟨rfl, rfl⟩
theorem hdX6_mean : yX6_mean.cls ≠ "java/lang/invoke/MethodHandle" ∧ yX6_mean.cls ≠ "java/lang/invoke/VarHandle" ∧ (parseMethodDescriptor yX6_mean.desc).map (fun d => d.parameters.length) = some 3 := by decide +kernel
theorem eX6_mean_0 : Dc cX6_mean 0 (.iload_n 1) 1 1 := ⟨by decide +kernel, rfl⟩
theorem eX6_mean_1 : Dc cX6_mean 1 (.iload_n 2) 1 2 := ⟨by decide +kernel, rfl⟩
theorem eX6_mean_2 : Dc cX6_mean 2 (.iload_n 3) 1 3 := ⟨by decide +kernel, rfl⟩
theorem eX6_mean_3 : Dc cX6_mean 3 (.invokestatic 242) 3 6 := ⟨by decide +kernel, rfl⟩
theorem eX6_mean_6 : Dc cX6_mean 6 (.ifCond .ne 7) 3 9 := ⟨by decide +kernel, rfl⟩
theorem eX6_mean_9 : Dc cX6_mean 9 (.ldc2_w 245) 3 12 := ⟨by decide +kernel, rfl⟩
theorem eX6_mean_12 : Dc cX6_mean 12 (.lreturn) 1 13 := ⟨by decide +kernel, rfl⟩
theorem eX6_mean_13 : Dc cX6_mean 13 (.aload_n 0) 1 14 := ⟨by decide +kernel, rfl⟩
theorem eX6_mean_14 : Dc cX6_mean 14 (.invokevirtual 147) 3 17 := ⟨by decide +kernel, rfl⟩
theorem eX6_mean_17 : Dc cX6_mean 17 (.ifCond .ne 7) 3 20 := ⟨by decide +kernel, rfl⟩
theorem eX6_mean_20 : Dc cX6_mean 20 (.ldc2_w 247) 3 23 := ⟨by decide +kernel, rfl⟩
theorem eX6_mean_23 : Dc cX6_mean 23 (.lreturn) 1 24 := ⟨by decide +kernel, rfl⟩
theorem eX6_mean_24 : Dc cX6_mean 24 (.iconst 0) 1 25 := ⟨by decide +kernel, rfl⟩
theorem eX6_mean_25 : Dc cX6_mean 25 (.istore 4) 2 27 := ⟨by decide +kernel, rfl⟩
theorem eX6_mean_27 : Dc cX6_mean 27 (.iconst 0) 1 28 := ⟨by decide +kernel, rfl⟩
theorem eX6_mean_28 : Dc cX6_mean 28 (.istore 5) 2 30 := ⟨by decide +kernel, rfl⟩
theorem eX6_mean_30 : Dc cX6_mean 30 (.iload 5) 2 32 := ⟨by decide +kernel, rfl⟩
theorem eX6_mean_32 : Dc cX6_mean 32 (.bipush 8) 2 34 := ⟨by decide +kernel, rfl⟩
theorem eX6_mean_34 : Dc cX6_mean 34 (.if_icmp .ge 84) 3 37 := ⟨by decide +kernel, rfl⟩
theorem eX6_mean_37 : Dc cX6_mean 37 (.aload_n 0) 1 38 := ⟨by decide +kernel, rfl⟩
theorem eX6_mean_38 : Dc cX6_mean 38 (.getfield 19) 3 41 := ⟨by decide +kernel, rfl⟩
theorem eX6_mean_41 : Dc cX6_mean 41 (.iload 5) 2 43 := ⟨by decide +kernel, rfl⟩
theorem eX6_mean_43 : Dc cX6_mean 43 (.invokevirtual 127) 3 46 := ⟨by decide +kernel, rfl⟩
theorem eX6_mean_46 : Dc cX6_mean 46 (.ifCond .eq 66) 3 49 := ⟨by decide +kernel, rfl⟩
theorem eX6_mean_49 : Dc cX6_mean 49 (.aload_n 0) 1 50 := ⟨by decide +kernel, rfl⟩
theorem eX6_mean_50 : Dc cX6_mean 50 (.getfield 32) 3 53 := ⟨by decide +kernel, rfl⟩
theorem eX6_mean_53 : Dc cX6_mean 53 (.iload 5) 2 55 := ⟨by decide +kernel, rfl⟩
theorem eX6_mean_55 : Dc cX6_mean 55 (.aload_n 0) 1 56 := ⟨by decide +kernel, rfl⟩
theorem eX6_mean_56 : Dc cX6_mean 56 (.getfield 65) 3 59 := ⟨by decide +kernel, rfl⟩
theorem eX6_mean_59 : Dc cX6_mean 59 (.aload_n 0) 1 60 := ⟨by decide +kernel, rfl⟩
theorem eX6_mean_60 : Dc cX6_mean 60 (.getfield 19) 3 63 := ⟨by decide +kernel, rfl⟩
theorem eX6_mean_63 : Dc cX6_mean 63 (.getfield 103) 3 66 := ⟨by decide +kernel, rfl⟩
theorem eX6_mean_66 : Dc cX6_mean 66 (.iload 5) 2 68 := ⟨by decide +kernel, rfl⟩
theorem eX6_mean_68 : Dc cX6_mean 68 (.iaload) 1 69 := ⟨by decide +kernel, rfl⟩
theorem eX6_mean_69 : Dc cX6_mean 69 (.iaload) 1 70 := ⟨by decide +kernel, rfl⟩
theorem eX6_mean_70 : Dc cX6_mean 70 (.iload_n 1) 1 71 := ⟨by decide +kernel, rfl⟩
theorem eX6_mean_71 : Dc cX6_mean 71 (.iload_n 2) 1 72 := ⟨by decide +kernel, rfl⟩
theorem eX6_mean_72 : Dc cX6_mean 72 (.invokevirtual 249) 3 75 := ⟨by decide +kernel, rfl⟩
theorem eX6_mean_75 : Dc cX6_mean 75 (.istore 6) 2 77 := ⟨by decide +kernel, rfl⟩
theorem eX6_mean_77 : Dc cX6_mean 77 (.iload 4) 2 79 := ⟨by decide +kernel, rfl⟩
theorem eX6_mean_79 : Dc cX6_mean 79 (.iload 6) 2 81 := ⟨by decide +kernel, rfl⟩
theorem eX6_mean_81 : Dc cX6_mean 81 (.aload_n 0) 1 82 := ⟨by decide +kernel, rfl⟩
theorem eX6_mean_82 : Dc cX6_mean 82 (.getfield 19) 3 85 := ⟨by decide +kernel, rfl⟩
theorem eX6_mean_85 : Dc cX6_mean 85 (.getfield 109) 3 88 := ⟨by decide +kernel, rfl⟩
theorem eX6_mean_88 : Dc cX6_mean 88 (.iload 5) 2 90 := ⟨by decide +kernel, rfl⟩
theorem eX6_mean_90 : Dc cX6_mean 90 (.iaload) 1 91 := ⟨by decide +kernel, rfl⟩
theorem eX6_mean_91 : Dc cX6_mean 91 (.imul) 1 92 := ⟨by decide +kernel, rfl⟩
theorem eX6_mean_92 : Dc cX6_mean 92 (.bipush 10) 2 94 := ⟨by decide +kernel, rfl⟩
theorem eX6_mean_94 : Dc cX6_mean 94 (.iload 6) 2 96 := ⟨by decide +kernel, rfl⟩
theorem eX6_mean_96 : Dc cX6_mean 96 (.isub) 1 97 := ⟨by decide +kernel, rfl⟩
theorem eX6_mean_97 : Dc cX6_mean 97 (.aload_n 0) 1 98 := ⟨by decide +kernel, rfl⟩
theorem eX6_mean_98 : Dc cX6_mean 98 (.getfield 19) 3 101 := ⟨by decide +kernel, rfl⟩
theorem eX6_mean_101 : Dc cX6_mean 101 (.getfield 112) 3 104 := ⟨by decide +kernel, rfl⟩
theorem eX6_mean_104 : Dc cX6_mean 104 (.iload 5) 2 106 := ⟨by decide +kernel, rfl⟩
theorem eX6_mean_106 : Dc cX6_mean 106 (.iaload) 1 107 := ⟨by decide +kernel, rfl⟩
theorem eX6_mean_107 : Dc cX6_mean 107 (.imul) 1 108 := ⟨by decide +kernel, rfl⟩
theorem eX6_mean_108 : Dc cX6_mean 108 (.iadd) 1 109 := ⟨by decide +kernel, rfl⟩
theorem eX6_mean_109 : Dc cX6_mean 109 (.iadd) 1 110 := ⟨by decide +kernel, rfl⟩
theorem eX6_mean_110 : Dc cX6_mean 110 (.istore 4) 2 112 := ⟨by decide +kernel, rfl⟩
theorem eX6_mean_112 : Dc cX6_mean 112 (.iinc 5 1) 3 115 := ⟨by decide +kernel, rfl⟩
theorem eX6_mean_115 : Dc cX6_mean 115 (.goto (-85)) 3 118 := ⟨by decide +kernel, rfl⟩
theorem eX6_mean_118 : Dc cX6_mean 118 (.iload 4) 2 120 := ⟨by decide +kernel, rfl⟩
theorem eX6_mean_120 : Dc cX6_mean 120 (.bipush 10) 2 122 := ⟨by decide +kernel, rfl⟩
theorem eX6_mean_122 : Dc cX6_mean 122 (.iload_n 3) 1 123 := ⟨by decide +kernel, rfl⟩
theorem eX6_mean_123 : Dc cX6_mean 123 (.invokestatic 253) 3 126 := ⟨by decide +kernel, rfl⟩
theorem eX6_mean_126 : Dc cX6_mean 126 (.lreturn) 1 127 := ⟨by decide +kernel, rfl⟩
def fX6_mean_L30 (k : Int32 → Option (Int64 × SS)) (c : SS) (a1 : Int32) (a2 : Int32) (a3 : Int32) : Nat → Int32 → Int32 → Option (Int64 × SS)
  | 0, _, _ => none
  | n + 1, a4, a5 => if (8 : Int32) ≤ a5 then k a4 else jn (fun (x5 : Int32) => fX6_mean_L30 k c a1 a2 a3 n x5 (a5 + (1 : Int32))) (fun j112 => if (fX5_isPerson c a5) = (0 : Int32) then j112 a4 else ald 8 (c.2 2) a5 (fun v7 => ald 6 (c.2 20) v7 (fun v8 => Option.bind (fX4_tenths c a5 v8 a1 a2) (fun q9 => ald 8 (c.2 4) a5 (fun v10 => ald 8 (c.2 5) a5 (fun v11 => j112 (a4 + ((q9 * v10) + (((10 : Int32) - q9) * v11)))))))))
def fX6_mean (c : SS) (p1 : Int32) (p2 : Int32) (p3 : Int32) : Option (Int64 × SS) := if (fX6_areRunners p1 p2 p3) = (0 : Int32) then some ((-1000000000000000002 : Int64), c) else Option.bind (fX6_readGoodHold c) (fun q2 => if q2.1 = (0 : Int32) then some ((-1000000000000000005 : Int64), q2.2) else fX6_mean_L30 (fun (x12 : Int32) => Option.bind (fX6_partOf x12 (10 : Int32) p3) (fun q13 => some (q13, q2.2))) q2.2 p1 p2 p3 fu (0 : Int32) (0 : Int32))
set_option maxRecDepth 20000 in
theorem ctX6_mean_L30 (l : Launch) (G : tg_G) (A : Nat → Nat) (k : Int32 → Option (Int64 × SS)) (c : SS) (a1 : Int32) (a2 : Int32) (a3 : Int32) {z : Int64 × SS} (hk : ∀ (e4 : Int32), k e4 = some z → V l G (tg_Zm G (fun v w1 => v = some (.long z.1) ∧ w1 = wC G A z.2) 0 0) tg_E0 (tg_R 4 87) "TramGod" "mean" cX6_mean 7 (some .long) 118 [(3, .int a3), (4, .int e4)] [] (wC G A c) 0 0) : ∀ (n : Nat) (a4 : Int32) (a5 : Int32), fX6_mean_L30 k c a1 a2 a3 n a4 a5 = some z → V l G (tg_Zm G (fun v w1 => v = some (.long z.1) ∧ w1 = wC G A z.2) 0 0) tg_E0 (tg_R 4 87) "TramGod" "mean" cX6_mean 7 (some .long) 30 [(0, .ref (A 0)), (1, .int a1), (2, .int a2), (3, .int a3), (4, .int a4), (5, .int a5)] [] (wC G A c) 0 0 := by
  intro n
  induction n with
  | zero => intro a4 a5 h; exact absurd h (by simp [fX6_mean_L30])
  | succ n ih =>
    intro a4 a5 h
    unfold fX6_mean_L30 at h
    refine V_iload eX6_mean_30 5 rfl ?_
    refine V_bipush (v := (8 : Int32)) eX6_mean_32 rfl ?_
    refine V_icmp_ge (tgt := 118) eX6_mean_34 rfl (fun hb4 => ?_) (fun hb4 => ?_)
    · replace h := (if_pos hb4).symm.trans h
      refine V_lv (lv' := [(3, .int a3), (4, .int a4)]) [3, 4] rfl ?_
      exact hk a4 h
    · replace h := (if_neg hb4).symm.trans h
      refine V_aload_n eX6_mean_37 0 rfl ?_
      refine V_get (v := .ref (A 3)) eX6_mean_38 inX6 0 rfl rfl 1 (Nat.le_of_ble_eq_true rfl) tw_208 rfl ?_
      refine V_iload eX6_mean_41 5 rfl ?_
      refine V_callVi (rest := []) eX6_mean_43 (ctX5_isPerson l G A c a5 rfl) tc_311 tw_308 tw_3 tw_309 tw_310 3 rfl rfl hdX5_isPerson rfl ⟨Nat.le_of_ble_eq_true rfl, Nat.le_of_ble_eq_true rfl⟩ rfl (Nat.le_of_ble_eq_true rfl) ⟨Nat.zero_le _, Nat.zero_le _⟩ ?_
      refine jn_elim h (fun j => ∀ (x5 : Int32), j x5 = some z → V l G (tg_Zm G (fun v w1 => v = some (.long z.1) ∧ w1 = wC G A z.2) 0 0) tg_E0 (tg_R 4 87) "TramGod" "mean" cX6_mean 7 (some .long) 112 [(0, .ref (A 0)), (1, .int a1), (2, .int a2), (3, .int a3), (4, .int x5), (5, .int a5)] [] (wC G A c) 0 0) ?_ (fun j112 hj112 h => ?_)
      · intro x5 h
        refine V_iinc (v := (a5 + (1 : Int32))) (lv' := [(5, .int (a5 + (1 : Int32))), (0, .ref (A 0)), (1, .int a1), (2, .int a2), (3, .int a3), (4, .int x5)]) eX6_mean_112 5 rfl rfl (Nat.le_of_ble_eq_true rfl) rfl ?_
        refine V_goto (tgt := 30) eX6_mean_115 rfl ?_
        refine V_lv (lv' := [(0, .ref (A 0)), (1, .int a1), (2, .int a2), (3, .int a3), (4, .int x5), (5, .int (a5 + (1 : Int32)))]) [1, 2, 3, 4, 5, 0] rfl ?_
        exact ih x5 (a5 + (1 : Int32)) h
      refine V_if_eq (tgt := 112) eX6_mean_46 rfl (fun hb6 => ?_) (fun hb6 => ?_)
      · replace h := (if_pos hb6).symm.trans h
        exact hj112 a4 h
      · replace h := (if_neg hb6).symm.trans h
        refine V_aload_n eX6_mean_49 0 rfl ?_
        refine V_get (v := .ref (A 11)) eX6_mean_50 inX6 0 rfl rfl 3 (Nat.le_of_ble_eq_true rfl) tw_210 rfl ?_
        refine V_iload eX6_mean_53 5 rfl ?_
        refine V_aload_n eX6_mean_55 0 rfl ?_
        refine V_get (v := .ref (A 27)) eX6_mean_56 inX6 0 rfl rfl 8 (Nat.le_of_ble_eq_true rfl) tw_215 rfl ?_
        refine V_aload_n eX6_mean_59 0 rfl ?_
        refine V_get (v := .ref (A 3)) eX6_mean_60 inX6 0 rfl rfl 1 (Nat.le_of_ble_eq_true rfl) tw_208 rfl ?_
        refine V_get (v := .ref (A 5)) eX6_mean_63 inX5 3 rfl rfl 9 (Nat.le_of_ble_eq_true rfl) tw_67 rfl ?_
        refine V_iload eX6_mean_66 5 rfl ?_
        obtain ⟨v7, hi7, ev7, h⟩ := ald_some h
        refine V_ialdv eX6_mean_68 5 rfl hi7 ev7 ?_
        obtain ⟨v8, hi8, ev8, h⟩ := ald_some h
        refine V_ialdv eX6_mean_69 27 rfl hi8 ev8 ?_
        refine V_iload_n eX6_mean_70 1 rfl ?_
        refine V_iload_n eX6_mean_71 2 rfl ?_
        obtain ⟨q9, hc9, h⟩ := Option.bind_eq_some_iff.mp h
        refine V_callVi (rest := []) eX6_mean_72 (ctX4_tenths l G A c a5 v8 a1 a2 hc9) tc_591 tw_588 tw_4 tw_589 tw_590 11 rfl rfl hdX4_tenths rfl ⟨Nat.le_of_ble_eq_true rfl, Nat.le_of_ble_eq_true rfl⟩ rfl (Nat.le_of_ble_eq_true rfl) ⟨Nat.zero_le _, Nat.zero_le _⟩ ?_
        refine V_istore (lv' := [(6, .int q9), (0, .ref (A 0)), (1, .int a1), (2, .int a2), (3, .int a3), (4, .int a4), (5, .int a5)]) eX6_mean_75 (Nat.le_of_ble_eq_true rfl) rfl ?_
        refine V_iload eX6_mean_77 5 rfl ?_
        refine V_iload eX6_mean_79 0 rfl ?_
        refine V_aload_n eX6_mean_81 1 rfl ?_
        refine V_get (v := .ref (A 3)) eX6_mean_82 inX6 0 rfl rfl 1 (Nat.le_of_ble_eq_true rfl) tw_208 rfl ?_
        refine V_get (v := .ref (A 7)) eX6_mean_85 inX5 3 rfl rfl 11 (Nat.le_of_ble_eq_true rfl) tw_73 rfl ?_
        refine V_iload eX6_mean_88 6 rfl ?_
        obtain ⟨v10, hi10, ev10, h⟩ := ald_some h
        refine V_ialdv eX6_mean_90 7 rfl hi10 ev10 ?_
        refine V_imul eX6_mean_91 ?_
        refine V_bipush (v := (10 : Int32)) eX6_mean_92 rfl ?_
        refine V_iload eX6_mean_94 0 rfl ?_
        refine V_isub eX6_mean_96 ?_
        refine V_aload_n eX6_mean_97 1 rfl ?_
        refine V_get (v := .ref (A 3)) eX6_mean_98 inX6 0 rfl rfl 1 (Nat.le_of_ble_eq_true rfl) tw_208 rfl ?_
        refine V_get (v := .ref (A 8)) eX6_mean_101 inX5 3 rfl rfl 12 (Nat.le_of_ble_eq_true rfl) tw_76 rfl ?_
        refine V_iload eX6_mean_104 6 rfl ?_
        obtain ⟨v11, hi11, ev11, h⟩ := ald_some h
        refine V_ialdv eX6_mean_106 8 rfl hi11 ev11 ?_
        refine V_imul eX6_mean_107 ?_
        refine V_iadd eX6_mean_108 ?_
        refine V_iadd eX6_mean_109 ?_
        refine V_istore (lv' := [(4, .int (a4 + ((q9 * v10) + (((10 : Int32) - q9) * v11)))), (6, .int q9), (0, .ref (A 0)), (1, .int a1), (2, .int a2), (3, .int a3), (5, .int a5)]) eX6_mean_110 (Nat.le_of_ble_eq_true rfl) rfl ?_
        refine V_lv (lv' := [(0, .ref (A 0)), (1, .int a1), (2, .int a2), (3, .int a3), (4, .int (a4 + ((q9 * v10) + (((10 : Int32) - q9) * v11)))), (5, .int a5)]) [2, 3, 4, 5, 0, 6] rfl ?_
        exact hj112 (a4 + ((q9 * v10) + (((10 : Int32) - q9) * v11))) h
set_option maxRecDepth 20000 in
theorem ctX6_mean (l : Launch) (G : tg_G) (A : Nat → Nat) (c : SS) (p1 : Int32) (p2 : Int32) (p3 : Int32) {z : Int64 × SS} (h : fX6_mean c p1 p2 p3 = some z) : Mt l G yX6_mean cX6_mean 7 (some .long) (tg_R 4 87) [.ref (A 0), .int p1, .int p2, .int p3] (wC G A c) (fun v w1 => v = some (.long z.1) ∧ w1 = wC G A z.2) := by
  refine Mt_of2 (own := "TramGod") (nm := "mean") rfl rfl rfl (Nat.le_of_ble_eq_true rfl) (lv := [(0, .ref (A 0)), (1, .int p1), (2, .int p2), (3, .int p3)]) rfl ?_
  unfold fX6_mean at h
  refine V_iload_n eX6_mean_0 1 rfl ?_
  refine V_iload_n eX6_mean_1 2 rfl ?_
  refine V_iload_n eX6_mean_2 3 rfl ?_
  refine V_callSi (rest := []) eX6_mean_3 (ctX6_areRunners l G _ p1 p2 p3 rfl) tc_585 tw_583 tw_1 tw_584 hdX6_areRunners rfl ⟨Nat.le_of_ble_eq_true rfl, Nat.le_of_ble_eq_true rfl⟩ rfl (Nat.le_of_ble_eq_true rfl) ⟨Nat.zero_le _, Nat.zero_le _⟩ ?_
  refine V_if_ne (tgt := 13) eX6_mean_6 rfl (fun hb1 => ?_) (fun hb1 => ?_)
  · replace h := (if_neg hb1).symm.trans h
    refine V_aload_n eX6_mean_13 0 rfl ?_
    obtain ⟨q2, hc2, h⟩ := Option.bind_eq_some_iff.mp h
    refine V_callVi (rest := []) eX6_mean_14 (ctX6_readGoodHold l G A c hc2) tc_348 tw_345 tw_1 tw_347 ts_3 0 rfl rfl hdX6_readGoodHold rfl ⟨Nat.le_of_ble_eq_true rfl, Nat.le_of_ble_eq_true rfl⟩ rfl (Nat.le_of_ble_eq_true rfl) ⟨Nat.zero_le _, Nat.zero_le _⟩ ?_
    refine V_if_ne (tgt := 24) eX6_mean_17 rfl (fun hb3 => ?_) (fun hb3 => ?_)
    · replace h := (if_neg hb3).symm.trans h
      refine V_iconst (v := (0 : Int32)) eX6_mean_24 rfl ?_
      refine V_istore (lv' := [(4, .int (0 : Int32)), (0, .ref (A 0)), (1, .int p1), (2, .int p2), (3, .int p3)]) eX6_mean_25 (Nat.le_of_ble_eq_true rfl) rfl ?_
      refine V_iconst (v := (0 : Int32)) eX6_mean_27 rfl ?_
      refine V_istore (lv' := [(5, .int (0 : Int32)), (4, .int (0 : Int32)), (0, .ref (A 0)), (1, .int p1), (2, .int p2), (3, .int p3)]) eX6_mean_28 (Nat.le_of_ble_eq_true rfl) rfl ?_
      refine V_lv (lv' := [(0, .ref (A 0)), (1, .int p1), (2, .int p2), (3, .int p3), (4, .int (0 : Int32)), (5, .int (0 : Int32))]) [2, 3, 4, 5, 1, 0] rfl ?_
      refine ctX6_mean_L30 l G A _ q2.2 p1 p2 p3 ?_ fu (0 : Int32) (0 : Int32) h
      · intro x12 h
        refine V_iload eX6_mean_118 1 rfl ?_
        refine V_bipush (v := (10 : Int32)) eX6_mean_120 rfl ?_
        refine V_iload_n eX6_mean_122 0 rfl ?_
        obtain ⟨q13, hc13, h⟩ := Option.bind_eq_some_iff.mp h
        refine V_callSl (rest := []) eX6_mean_123 (ctX6_partOf l G _ x12 (10 : Int32) p3 hc13) tc_594 tw_592 tw_1 tw_593 hdX6_partOf rfl ⟨Nat.le_of_ble_eq_true rfl, Nat.le_of_ble_eq_true rfl⟩ rfl (Nat.le_of_ble_eq_true rfl) ⟨Nat.zero_le _, Nat.zero_le _⟩ ?_
        obtain rfl := Option.some.inj h
        exact V_lret eX6_mean_126 rfl ⟨rfl, rfl⟩
    · replace h := (if_pos hb3).symm.trans h
      refine V_ldc2 eX6_mean_20 tw_587 ?_
      obtain rfl := Option.some.inj h
      exact V_lret eX6_mean_23 rfl ⟨rfl, rfl⟩
  · replace h := (if_pos hb1).symm.trans h
    refine V_ldc2 eX6_mean_9 tw_586 ?_
    obtain rfl := Option.some.inj h
    exact V_lret eX6_mean_12 rfl ⟨rfl, rfl⟩
theorem hdX6_waits : yX6_waits.cls ≠ "java/lang/invoke/MethodHandle" ∧ yX6_waits.cls ≠ "java/lang/invoke/VarHandle" ∧ (parseMethodDescriptor yX6_waits.desc).map (fun d => d.parameters.length) = some 5 := by decide +kernel
theorem eX6_waits_0 : Dc cX6_waits 0 (.aload_n 0) 1 1 := ⟨by decide +kernel, rfl⟩
theorem eX6_waits_1 : Dc cX6_waits 1 (.getfield 19) 3 4 := ⟨by decide +kernel, rfl⟩
theorem eX6_waits_4 : Dc cX6_waits 4 (.iload_n 1) 1 5 := ⟨by decide +kernel, rfl⟩
theorem eX6_waits_5 : Dc cX6_waits 5 (.invokevirtual 127) 3 8 := ⟨by decide +kernel, rfl⟩
theorem eX6_waits_8 : Dc cX6_waits 8 (.ifCond .ne 5) 3 11 := ⟨by decide +kernel, rfl⟩
theorem eX6_waits_11 : Dc cX6_waits 11 (.iconst (-1)) 1 12 := ⟨by decide +kernel, rfl⟩
theorem eX6_waits_12 : Dc cX6_waits 12 (.ireturn) 1 13 := ⟨by decide +kernel, rfl⟩
theorem eX6_waits_13 : Dc cX6_waits 13 (.iload_n 2) 1 14 := ⟨by decide +kernel, rfl⟩
theorem eX6_waits_14 : Dc cX6_waits 14 (.iload_n 3) 1 15 := ⟨by decide +kernel, rfl⟩
theorem eX6_waits_15 : Dc cX6_waits 15 (.iconst 0) 1 16 := ⟨by decide +kernel, rfl⟩
theorem eX6_waits_16 : Dc cX6_waits 16 (.invokestatic 242) 3 19 := ⟨by decide +kernel, rfl⟩
theorem eX6_waits_19 : Dc cX6_waits 19 (.ifCond .eq 25) 3 22 := ⟨by decide +kernel, rfl⟩
theorem eX6_waits_22 : Dc cX6_waits 22 (.iload 5) 2 24 := ⟨by decide +kernel, rfl⟩
theorem eX6_waits_24 : Dc cX6_waits 24 (.iconst 1) 1 25 := ⟨by decide +kernel, rfl⟩
theorem eX6_waits_25 : Dc cX6_waits 25 (.bipush 100) 2 27 := ⟨by decide +kernel, rfl⟩
theorem eX6_waits_27 : Dc cX6_waits 27 (.invokestatic 68) 3 30 := ⟨by decide +kernel, rfl⟩
theorem eX6_waits_30 : Dc cX6_waits 30 (.ifCond .eq 14) 3 33 := ⟨by decide +kernel, rfl⟩
theorem eX6_waits_33 : Dc cX6_waits 33 (.iload 4) 2 35 := ⟨by decide +kernel, rfl⟩
theorem eX6_waits_35 : Dc cX6_waits 35 (.iconst 0) 1 36 := ⟨by decide +kernel, rfl⟩
theorem eX6_waits_36 : Dc cX6_waits 36 (.iload 5) 2 38 := ⟨by decide +kernel, rfl⟩
theorem eX6_waits_38 : Dc cX6_waits 38 (.invokestatic 68) 3 41 := ⟨by decide +kernel, rfl⟩
theorem eX6_waits_41 : Dc cX6_waits 41 (.ifCond .ne 6) 3 44 := ⟨by decide +kernel, rfl⟩
theorem eX6_waits_44 : Dc cX6_waits 44 (.bipush (-2)) 2 46 := ⟨by decide +kernel, rfl⟩
theorem eX6_waits_46 : Dc cX6_waits 46 (.ireturn) 1 47 := ⟨by decide +kernel, rfl⟩
theorem eX6_waits_47 : Dc cX6_waits 47 (.aload_n 0) 1 48 := ⟨by decide +kernel, rfl⟩
theorem eX6_waits_48 : Dc cX6_waits 48 (.getfield 19) 3 51 := ⟨by decide +kernel, rfl⟩
theorem eX6_waits_51 : Dc cX6_waits 51 (.getfield 103) 3 54 := ⟨by decide +kernel, rfl⟩
theorem eX6_waits_54 : Dc cX6_waits 54 (.iload_n 1) 1 55 := ⟨by decide +kernel, rfl⟩
theorem eX6_waits_55 : Dc cX6_waits 55 (.iaload) 1 56 := ⟨by decide +kernel, rfl⟩
theorem eX6_waits_56 : Dc cX6_waits 56 (.istore 6) 2 58 := ⟨by decide +kernel, rfl⟩
theorem eX6_waits_58 : Dc cX6_waits 58 (.aload_n 0) 1 59 := ⟨by decide +kernel, rfl⟩
theorem eX6_waits_59 : Dc cX6_waits 59 (.getfield 19) 3 62 := ⟨by decide +kernel, rfl⟩
theorem eX6_waits_62 : Dc cX6_waits 62 (.iload 6) 2 64 := ⟨by decide +kernel, rfl⟩
theorem eX6_waits_64 : Dc cX6_waits 64 (.invokevirtual 257) 3 67 := ⟨by decide +kernel, rfl⟩
theorem eX6_waits_67 : Dc cX6_waits 67 (.ifCond .eq 6) 3 70 := ⟨by decide +kernel, rfl⟩
theorem eX6_waits_70 : Dc cX6_waits 70 (.bipush (-3)) 2 72 := ⟨by decide +kernel, rfl⟩
theorem eX6_waits_72 : Dc cX6_waits 72 (.ireturn) 1 73 := ⟨by decide +kernel, rfl⟩
theorem eX6_waits_73 : Dc cX6_waits 73 (.aload_n 0) 1 74 := ⟨by decide +kernel, rfl⟩
theorem eX6_waits_74 : Dc cX6_waits 74 (.getfield 32) 3 77 := ⟨by decide +kernel, rfl⟩
theorem eX6_waits_77 : Dc cX6_waits 77 (.aload_n 0) 1 78 := ⟨by decide +kernel, rfl⟩
theorem eX6_waits_78 : Dc cX6_waits 78 (.getfield 19) 3 81 := ⟨by decide +kernel, rfl⟩
theorem eX6_waits_81 : Dc cX6_waits 81 (.getfield 94) 3 84 := ⟨by decide +kernel, rfl⟩
theorem eX6_waits_84 : Dc cX6_waits 84 (.invokevirtual 182) 3 87 := ⟨by decide +kernel, rfl⟩
theorem eX6_waits_87 : Dc cX6_waits 87 (.aload_n 0) 1 88 := ⟨by decide +kernel, rfl⟩
theorem eX6_waits_88 : Dc cX6_waits 88 (.getfield 19) 3 91 := ⟨by decide +kernel, rfl⟩
theorem eX6_waits_91 : Dc cX6_waits 91 (.iload 6) 2 93 := ⟨by decide +kernel, rfl⟩
theorem eX6_waits_93 : Dc cX6_waits 93 (.aload_n 0) 1 94 := ⟨by decide +kernel, rfl⟩
theorem eX6_waits_94 : Dc cX6_waits 94 (.getfield 19) 3 97 := ⟨by decide +kernel, rfl⟩
theorem eX6_waits_97 : Dc cX6_waits 97 (.getfield 130) 3 100 := ⟨by decide +kernel, rfl⟩
theorem eX6_waits_100 : Dc cX6_waits 100 (.invokevirtual 260) 3 103 := ⟨by decide +kernel, rfl⟩
theorem eX6_waits_103 : Dc cX6_waits 103 (.istore 7) 2 105 := ⟨by decide +kernel, rfl⟩
theorem eX6_waits_105 : Dc cX6_waits 105 (.iconst 0) 1 106 := ⟨by decide +kernel, rfl⟩
theorem eX6_waits_106 : Dc cX6_waits 106 (.istore 8) 2 108 := ⟨by decide +kernel, rfl⟩
theorem eX6_waits_108 : Dc cX6_waits 108 (.iload 8) 2 110 := ⟨by decide +kernel, rfl⟩
theorem eX6_waits_110 : Dc cX6_waits 110 (.iload 7) 2 112 := ⟨by decide +kernel, rfl⟩
theorem eX6_waits_112 : Dc cX6_waits 112 (.if_icmp .gt 35) 3 115 := ⟨by decide +kernel, rfl⟩
theorem eX6_waits_115 : Dc cX6_waits 115 (.aload_n 0) 1 116 := ⟨by decide +kernel, rfl⟩
theorem eX6_waits_116 : Dc cX6_waits 116 (.getfield 32) 3 119 := ⟨by decide +kernel, rfl⟩
theorem eX6_waits_119 : Dc cX6_waits 119 (.iload_n 1) 1 120 := ⟨by decide +kernel, rfl⟩
theorem eX6_waits_120 : Dc cX6_waits 120 (.iload 8) 2 122 := ⟨by decide +kernel, rfl⟩
theorem eX6_waits_122 : Dc cX6_waits 122 (.iload_n 2) 1 123 := ⟨by decide +kernel, rfl⟩
theorem eX6_waits_123 : Dc cX6_waits 123 (.iload_n 3) 1 124 := ⟨by decide +kernel, rfl⟩
theorem eX6_waits_124 : Dc cX6_waits 124 (.invokevirtual 249) 3 127 := ⟨by decide +kernel, rfl⟩
theorem eX6_waits_127 : Dc cX6_waits 127 (.iload 5) 2 129 := ⟨by decide +kernel, rfl⟩
theorem eX6_waits_129 : Dc cX6_waits 129 (.imul) 1 130 := ⟨by decide +kernel, rfl⟩
theorem eX6_waits_130 : Dc cX6_waits 130 (.bipush 10) 2 132 := ⟨by decide +kernel, rfl⟩
theorem eX6_waits_132 : Dc cX6_waits 132 (.iload 4) 2 134 := ⟨by decide +kernel, rfl⟩
theorem eX6_waits_134 : Dc cX6_waits 134 (.imul) 1 135 := ⟨by decide +kernel, rfl⟩
theorem eX6_waits_135 : Dc cX6_waits 135 (.if_icmp .lt 6) 3 138 := ⟨by decide +kernel, rfl⟩
theorem eX6_waits_138 : Dc cX6_waits 138 (.iload 8) 2 140 := ⟨by decide +kernel, rfl⟩
theorem eX6_waits_140 : Dc cX6_waits 140 (.ireturn) 1 141 := ⟨by decide +kernel, rfl⟩
theorem eX6_waits_141 : Dc cX6_waits 141 (.iinc 8 1) 3 144 := ⟨by decide +kernel, rfl⟩
theorem eX6_waits_144 : Dc cX6_waits 144 (.goto (-36)) 3 147 := ⟨by decide +kernel, rfl⟩
theorem eX6_waits_147 : Dc cX6_waits 147 (.bipush (-6)) 2 149 := ⟨by decide +kernel, rfl⟩
theorem eX6_waits_149 : Dc cX6_waits 149 (.ireturn) 1 150 := ⟨by decide +kernel, rfl⟩
def fX6_waits_L108  (c : SS) (a1 : Int32) (a2 : Int32) (a3 : Int32) (a4 : Int32) (a5 : Int32) (a7 : Int32) : Nat → Int32 → Option (Int32 × SS)
  | 0, _ => none
  | n + 1, a8 => if a7 < a8 then some ((-6 : Int32), c) else Option.bind (fX4_tenths c a1 a8 a2 a3) (fun q9 => if (q9 * a5) < ((10 : Int32) * a4) then fX6_waits_L108 c a1 a2 a3 a4 a5 a7 n (a8 + (1 : Int32)) else some (a8, c))
def fX6_waits (c : SS) (p1 : Int32) (p2 : Int32) (p3 : Int32) (p4 : Int32) (p5 : Int32) : Option (Int32 × SS) := if (fX5_isPerson c p1) = (0 : Int32) then some ((-1 : Int32), c) else if (fX6_areRunners p2 p3 (0 : Int32)) = (0 : Int32) then some ((-2 : Int32), c) else if (fX6_within p5 (1 : Int32) (100 : Int32)) = (0 : Int32) then some ((-2 : Int32), c) else if (fX6_within p4 (0 : Int32) p5) = (0 : Int32) then some ((-2 : Int32), c) else ald 8 (c.2 2) p1 (fun v5 => if (fX5_isClosed c v5) = (0 : Int32) then Option.bind (fX4_measure c (c.1 2)) (fun q7 => fX6_waits_L108 q7 p1 p2 p3 p4 p5 (fX5_mayHold q7 v5 (q7.1 3)) fu (0 : Int32)) else some ((-3 : Int32), c))
set_option maxRecDepth 20000 in
theorem ctX6_waits_L108 (l : Launch) (G : tg_G) (A : Nat → Nat)  (c : SS) (a1 : Int32) (a2 : Int32) (a3 : Int32) (a4 : Int32) (a5 : Int32) (a7 : Int32) {z : Int32 × SS}  : ∀ (n : Nat) (a8 : Int32), fX6_waits_L108 c a1 a2 a3 a4 a5 a7 n a8 = some z → V l G (tg_Zm G (fun v w1 => v = some (.int z.1) ∧ w1 = wC G A z.2) 0 0) tg_E0 (tg_R 3 67) "TramGod" "waits" cX6_waits 9 (some .int) 108 [(0, .ref (A 0)), (1, .int a1), (2, .int a2), (3, .int a3), (4, .int a4), (5, .int a5), (7, .int a7), (8, .int a8)] [] (wC G A c) 0 0 := by
  intro n
  induction n with
  | zero => intro a8 h; exact absurd h (by simp [fX6_waits_L108])
  | succ n ih =>
    intro a8 h
    unfold fX6_waits_L108 at h
    refine V_iload eX6_waits_108 7 rfl ?_
    refine V_iload eX6_waits_110 6 rfl ?_
    refine V_icmp_gt (tgt := 147) eX6_waits_112 rfl (fun hb8 => ?_) (fun hb8 => ?_)
    · replace h := (if_pos hb8).symm.trans h
      refine V_bipush (v := (-6 : Int32)) eX6_waits_147 rfl ?_
      obtain rfl := Option.some.inj h
      exact V_ret eX6_waits_149 rfl ⟨rfl, rfl⟩
    · replace h := (if_neg hb8).symm.trans h
      refine V_aload_n eX6_waits_115 0 rfl ?_
      refine V_get (v := .ref (A 11)) eX6_waits_116 inX6 0 rfl rfl 3 (Nat.le_of_ble_eq_true rfl) tw_210 rfl ?_
      refine V_iload_n eX6_waits_119 1 rfl ?_
      refine V_iload eX6_waits_120 7 rfl ?_
      refine V_iload_n eX6_waits_122 2 rfl ?_
      refine V_iload_n eX6_waits_123 3 rfl ?_
      obtain ⟨q9, hc9, h⟩ := Option.bind_eq_some_iff.mp h
      refine V_callVi (rest := []) eX6_waits_124 (ctX4_tenths l G A c a1 a8 a2 a3 hc9) tc_591 tw_588 tw_4 tw_589 tw_590 11 rfl rfl hdX4_tenths rfl ⟨Nat.le_of_ble_eq_true rfl, Nat.le_of_ble_eq_true rfl⟩ rfl (Nat.le_of_ble_eq_true rfl) ⟨Nat.zero_le _, Nat.zero_le _⟩ ?_
      refine V_iload eX6_waits_127 5 rfl ?_
      refine V_imul eX6_waits_129 ?_
      refine V_bipush (v := (10 : Int32)) eX6_waits_130 rfl ?_
      refine V_iload eX6_waits_132 4 rfl ?_
      refine V_imul eX6_waits_134 ?_
      refine V_icmp_lt (tgt := 141) eX6_waits_135 rfl (fun hb10 => ?_) (fun hb10 => ?_)
      · replace h := (if_pos hb10).symm.trans h
        refine V_iinc (v := (a8 + (1 : Int32))) (lv' := [(8, .int (a8 + (1 : Int32))), (0, .ref (A 0)), (1, .int a1), (2, .int a2), (3, .int a3), (4, .int a4), (5, .int a5), (7, .int a7)]) eX6_waits_141 7 rfl rfl (Nat.le_of_ble_eq_true rfl) rfl ?_
        refine V_goto (tgt := 108) eX6_waits_144 rfl ?_
        refine V_lv (lv' := [(0, .ref (A 0)), (1, .int a1), (2, .int a2), (3, .int a3), (4, .int a4), (5, .int a5), (7, .int a7), (8, .int (a8 + (1 : Int32)))]) [1, 2, 3, 4, 5, 6, 7, 0] rfl ?_
        exact ih (a8 + (1 : Int32)) h
      · replace h := (if_neg hb10).symm.trans h
        refine V_iload eX6_waits_138 7 rfl ?_
        obtain rfl := Option.some.inj h
        exact V_ret eX6_waits_140 rfl ⟨rfl, rfl⟩
set_option maxRecDepth 20000 in
theorem ctX6_waits (l : Launch) (G : tg_G) (A : Nat → Nat) (c : SS) (p1 : Int32) (p2 : Int32) (p3 : Int32) (p4 : Int32) (p5 : Int32) {z : Int32 × SS} (h : fX6_waits c p1 p2 p3 p4 p5 = some z) : Mt l G yX6_waits cX6_waits 9 (some .int) (tg_R 3 67) [.ref (A 0), .int p1, .int p2, .int p3, .int p4, .int p5] (wC G A c) (fun v w1 => v = some (.int z.1) ∧ w1 = wC G A z.2) := by
  refine Mt_of2 (own := "TramGod") (nm := "waits") rfl rfl rfl (Nat.le_of_ble_eq_true rfl) (lv := [(0, .ref (A 0)), (1, .int p1), (2, .int p2), (3, .int p3), (4, .int p4), (5, .int p5)]) rfl ?_
  unfold fX6_waits at h
  refine V_aload_n eX6_waits_0 0 rfl ?_
  refine V_get (v := .ref (A 3)) eX6_waits_1 inX6 0 rfl rfl 1 (Nat.le_of_ble_eq_true rfl) tw_208 rfl ?_
  refine V_iload_n eX6_waits_4 1 rfl ?_
  refine V_callVi (rest := []) eX6_waits_5 (ctX5_isPerson l G A c p1 rfl) tc_311 tw_308 tw_3 tw_309 tw_310 3 rfl rfl hdX5_isPerson rfl ⟨Nat.le_of_ble_eq_true rfl, Nat.le_of_ble_eq_true rfl⟩ rfl (Nat.le_of_ble_eq_true rfl) ⟨Nat.zero_le _, Nat.zero_le _⟩ ?_
  refine V_if_ne (tgt := 13) eX6_waits_8 rfl (fun hb1 => ?_) (fun hb1 => ?_)
  · replace h := (if_neg hb1).symm.trans h
    refine V_iload_n eX6_waits_13 2 rfl ?_
    refine V_iload_n eX6_waits_14 3 rfl ?_
    refine V_iconst (v := (0 : Int32)) eX6_waits_15 rfl ?_
    refine V_callSi (rest := []) eX6_waits_16 (ctX6_areRunners l G _ p2 p3 (0 : Int32) rfl) tc_585 tw_583 tw_1 tw_584 hdX6_areRunners rfl ⟨Nat.le_of_ble_eq_true rfl, Nat.le_of_ble_eq_true rfl⟩ rfl (Nat.le_of_ble_eq_true rfl) ⟨Nat.zero_le _, Nat.zero_le _⟩ ?_
    refine V_if_eq (tgt := 44) eX6_waits_19 rfl (fun hb2 => ?_) (fun hb2 => ?_)
    · replace h := (if_pos hb2).symm.trans h
      refine V_bipush (v := (-2 : Int32)) eX6_waits_44 rfl ?_
      obtain rfl := Option.some.inj h
      exact V_ret eX6_waits_46 rfl ⟨rfl, rfl⟩
    · replace h := (if_neg hb2).symm.trans h
      refine V_iload eX6_waits_22 5 rfl ?_
      refine V_iconst (v := (1 : Int32)) eX6_waits_24 rfl ?_
      refine V_bipush (v := (100 : Int32)) eX6_waits_25 rfl ?_
      refine V_callSi (rest := []) eX6_waits_27 (ctX6_within l G _ p5 (1 : Int32) (100 : Int32) rfl) tc_241 tw_239 tw_1 tw_240 hdX6_within rfl ⟨Nat.le_of_ble_eq_true rfl, Nat.le_of_ble_eq_true rfl⟩ rfl (Nat.le_of_ble_eq_true rfl) ⟨Nat.zero_le _, Nat.zero_le _⟩ ?_
      refine V_if_eq (tgt := 44) eX6_waits_30 rfl (fun hb3 => ?_) (fun hb3 => ?_)
      · replace h := (if_pos hb3).symm.trans h
        refine V_bipush (v := (-2 : Int32)) eX6_waits_44 rfl ?_
        obtain rfl := Option.some.inj h
        exact V_ret eX6_waits_46 rfl ⟨rfl, rfl⟩
      · replace h := (if_neg hb3).symm.trans h
        refine V_iload eX6_waits_33 4 rfl ?_
        refine V_iconst (v := (0 : Int32)) eX6_waits_35 rfl ?_
        refine V_iload eX6_waits_36 5 rfl ?_
        refine V_callSi (rest := []) eX6_waits_38 (ctX6_within l G _ p4 (0 : Int32) p5 rfl) tc_241 tw_239 tw_1 tw_240 hdX6_within rfl ⟨Nat.le_of_ble_eq_true rfl, Nat.le_of_ble_eq_true rfl⟩ rfl (Nat.le_of_ble_eq_true rfl) ⟨Nat.zero_le _, Nat.zero_le _⟩ ?_
        refine V_if_ne (tgt := 47) eX6_waits_41 rfl (fun hb4 => ?_) (fun hb4 => ?_)
        · replace h := (if_neg hb4).symm.trans h
          refine V_aload_n eX6_waits_47 0 rfl ?_
          refine V_get (v := .ref (A 3)) eX6_waits_48 inX6 0 rfl rfl 1 (Nat.le_of_ble_eq_true rfl) tw_208 rfl ?_
          refine V_get (v := .ref (A 5)) eX6_waits_51 inX5 3 rfl rfl 9 (Nat.le_of_ble_eq_true rfl) tw_67 rfl ?_
          refine V_iload_n eX6_waits_54 1 rfl ?_
          obtain ⟨v5, hi5, ev5, h⟩ := ald_some h
          refine V_ialdv eX6_waits_55 5 rfl hi5 ev5 ?_
          refine V_istore (lv' := [(6, .int v5), (0, .ref (A 0)), (1, .int p1), (2, .int p2), (3, .int p3), (4, .int p4), (5, .int p5)]) eX6_waits_56 (Nat.le_of_ble_eq_true rfl) rfl ?_
          refine V_aload_n eX6_waits_58 1 rfl ?_
          refine V_get (v := .ref (A 3)) eX6_waits_59 inX6 0 rfl rfl 1 (Nat.le_of_ble_eq_true rfl) tw_208 rfl ?_
          refine V_iload eX6_waits_62 0 rfl ?_
          refine V_callVi (rest := []) eX6_waits_64 (ctX5_isClosed l G A c v5 rfl) tc_331 tw_328 tw_3 tw_329 tw_330 3 rfl rfl hdX5_isClosed rfl ⟨Nat.le_of_ble_eq_true rfl, Nat.le_of_ble_eq_true rfl⟩ rfl (Nat.le_of_ble_eq_true rfl) ⟨Nat.zero_le _, Nat.zero_le _⟩ ?_
          refine V_if_eq (tgt := 73) eX6_waits_67 rfl (fun hb6 => ?_) (fun hb6 => ?_)
          · replace h := (if_pos hb6).symm.trans h
            refine V_aload_n eX6_waits_73 1 rfl ?_
            refine V_get (v := .ref (A 11)) eX6_waits_74 inX6 0 rfl rfl 3 (Nat.le_of_ble_eq_true rfl) tw_210 rfl ?_
            refine V_aload_n eX6_waits_77 1 rfl ?_
            refine V_get (v := .ref (A 3)) eX6_waits_78 inX6 0 rfl rfl 1 (Nat.le_of_ble_eq_true rfl) tw_208 rfl ?_
            refine V_get (v := .int (c.1 2)) eX6_waits_81 inX5 3 rfl rfl 1 (Nat.le_of_ble_eq_true rfl) tw_47 rfl ?_
            obtain ⟨q7, hc7, h⟩ := Option.bind_eq_some_iff.mp h
            refine V_callVv (rest := []) eX6_waits_84 (ctX4_measure l G A c (c.1 2) hc7) tc_352 tw_349 tw_4 tw_350 tw_351 11 rfl rfl hdX4_measure rfl ⟨Nat.le_of_ble_eq_true rfl, Nat.le_of_ble_eq_true rfl⟩ rfl (Nat.le_of_ble_eq_true rfl) ⟨Nat.zero_le _, Nat.zero_le _⟩ ?_
            refine V_aload_n eX6_waits_87 1 rfl ?_
            refine V_get (v := .ref (A 3)) eX6_waits_88 inX6 0 rfl rfl 1 (Nat.le_of_ble_eq_true rfl) tw_208 rfl ?_
            refine V_iload eX6_waits_91 0 rfl ?_
            refine V_aload_n eX6_waits_93 1 rfl ?_
            refine V_get (v := .ref (A 3)) eX6_waits_94 inX6 0 rfl rfl 1 (Nat.le_of_ble_eq_true rfl) tw_208 rfl ?_
            refine V_get (v := .int (q7.1 3)) eX6_waits_97 inX5 3 rfl rfl 2 (Nat.le_of_ble_eq_true rfl) tw_51 rfl ?_
            refine V_callVi (rest := []) eX6_waits_100 (ctX5_mayHold l G A q7 v5 (q7.1 3) rfl) tc_438 tw_606 tw_3 tw_436 tw_437 3 rfl rfl hdX5_mayHold rfl ⟨Nat.le_of_ble_eq_true rfl, Nat.le_of_ble_eq_true rfl⟩ rfl (Nat.le_of_ble_eq_true rfl) ⟨Nat.zero_le _, Nat.zero_le _⟩ ?_
            refine V_istore (lv' := [(7, .int (fX5_mayHold q7 v5 (q7.1 3))), (6, .int v5), (0, .ref (A 0)), (1, .int p1), (2, .int p2), (3, .int p3), (4, .int p4), (5, .int p5)]) eX6_waits_103 (Nat.le_of_ble_eq_true rfl) rfl ?_
            refine V_iconst (v := (0 : Int32)) eX6_waits_105 rfl ?_
            refine V_istore (lv' := [(8, .int (0 : Int32)), (7, .int (fX5_mayHold q7 v5 (q7.1 3))), (6, .int v5), (0, .ref (A 0)), (1, .int p1), (2, .int p2), (3, .int p3), (4, .int p4), (5, .int p5)]) eX6_waits_106 (Nat.le_of_ble_eq_true rfl) rfl ?_
            refine V_lv (lv' := [(0, .ref (A 0)), (1, .int p1), (2, .int p2), (3, .int p3), (4, .int p4), (5, .int p5), (7, .int (fX5_mayHold q7 v5 (q7.1 3))), (8, .int (0 : Int32))]) [3, 4, 5, 6, 7, 8, 1, 0] rfl ?_
            refine ctX6_waits_L108 l G A q7 p1 p2 p3 p4 p5 (fX5_mayHold q7 v5 (q7.1 3)) fu (0 : Int32) h
          · replace h := (if_neg hb6).symm.trans h
            refine V_bipush (v := (-3 : Int32)) eX6_waits_70 rfl ?_
            obtain rfl := Option.some.inj h
            exact V_ret eX6_waits_72 rfl ⟨rfl, rfl⟩
        · replace h := (if_pos hb4).symm.trans h
          refine V_bipush (v := (-2 : Int32)) eX6_waits_44 rfl ?_
          obtain rfl := Option.some.inj h
          exact V_ret eX6_waits_46 rfl ⟨rfl, rfl⟩
  · replace h := (if_pos hb1).symm.trans h
    refine V_iconst (v := (-1 : Int32)) eX6_waits_11 rfl ?_
    obtain rfl := Option.some.inj h
    exact V_ret eX6_waits_12 rfl ⟨rfl, rfl⟩
theorem hdX6_year : yX6_year.cls ≠ "java/lang/invoke/MethodHandle" ∧ yX6_year.cls ≠ "java/lang/invoke/VarHandle" ∧ (parseMethodDescriptor yX6_year.desc).map (fun d => d.parameters.length) = some 3 := by decide +kernel
theorem eX6_year_0 : Dc cX6_year 0 (.iload_n 1) 1 1 := ⟨by decide +kernel, rfl⟩
theorem eX6_year_1 : Dc cX6_year 1 (.iconst 0) 1 2 := ⟨by decide +kernel, rfl⟩
theorem eX6_year_2 : Dc cX6_year 2 (.sipush 9999) 3 5 := ⟨by decide +kernel, rfl⟩
theorem eX6_year_5 : Dc cX6_year 5 (.invokestatic 68) 3 8 := ⟨by decide +kernel, rfl⟩
theorem eX6_year_8 : Dc cX6_year 8 (.ifCond .eq 22) 3 11 := ⟨by decide +kernel, rfl⟩
theorem eX6_year_11 : Dc cX6_year 11 (.iload_n 2) 1 12 := ⟨by decide +kernel, rfl⟩
theorem eX6_year_12 : Dc cX6_year 12 (.iconst 1) 1 13 := ⟨by decide +kernel, rfl⟩
theorem eX6_year_13 : Dc cX6_year 13 (.bipush 99) 2 15 := ⟨by decide +kernel, rfl⟩
theorem eX6_year_15 : Dc cX6_year 15 (.invokestatic 68) 3 18 := ⟨by decide +kernel, rfl⟩
theorem eX6_year_18 : Dc cX6_year 18 (.ifCond .eq 12) 3 21 := ⟨by decide +kernel, rfl⟩
theorem eX6_year_21 : Dc cX6_year 21 (.iload_n 3) 1 22 := ⟨by decide +kernel, rfl⟩
theorem eX6_year_22 : Dc cX6_year 22 (.iconst 0) 1 23 := ⟨by decide +kernel, rfl⟩
theorem eX6_year_23 : Dc cX6_year 23 (.iconst 2) 1 24 := ⟨by decide +kernel, rfl⟩
theorem eX6_year_24 : Dc cX6_year 24 (.invokestatic 68) 3 27 := ⟨by decide +kernel, rfl⟩
theorem eX6_year_27 : Dc cX6_year 27 (.ifCond .ne 6) 3 30 := ⟨by decide +kernel, rfl⟩
theorem eX6_year_30 : Dc cX6_year 30 (.bipush (-2)) 2 32 := ⟨by decide +kernel, rfl⟩
theorem eX6_year_32 : Dc cX6_year 32 (.ireturn) 1 33 := ⟨by decide +kernel, rfl⟩
theorem eX6_year_33 : Dc cX6_year 33 (.aload_n 0) 1 34 := ⟨by decide +kernel, rfl⟩
theorem eX6_year_34 : Dc cX6_year 34 (.invokevirtual 147) 3 37 := ⟨by decide +kernel, rfl⟩
theorem eX6_year_37 : Dc cX6_year 37 (.ifCond .ne 6) 3 40 := ⟨by decide +kernel, rfl⟩
theorem eX6_year_40 : Dc cX6_year 40 (.bipush (-5)) 2 42 := ⟨by decide +kernel, rfl⟩
theorem eX6_year_42 : Dc cX6_year 42 (.ireturn) 1 43 := ⟨by decide +kernel, rfl⟩
theorem eX6_year_43 : Dc cX6_year 43 (.iload_n 1) 1 44 := ⟨by decide +kernel, rfl⟩
theorem eX6_year_44 : Dc cX6_year 44 (.istore 4) 2 46 := ⟨by decide +kernel, rfl⟩
theorem eX6_year_46 : Dc cX6_year 46 (.iconst 0) 1 47 := ⟨by decide +kernel, rfl⟩
theorem eX6_year_47 : Dc cX6_year 47 (.istore 5) 2 49 := ⟨by decide +kernel, rfl⟩
theorem eX6_year_49 : Dc cX6_year 49 (.iconst 0) 1 50 := ⟨by decide +kernel, rfl⟩
theorem eX6_year_50 : Dc cX6_year 50 (.istore 6) 2 52 := ⟨by decide +kernel, rfl⟩
theorem eX6_year_52 : Dc cX6_year 52 (.iconst 0) 1 53 := ⟨by decide +kernel, rfl⟩
theorem eX6_year_53 : Dc cX6_year 53 (.istore 7) 2 55 := ⟨by decide +kernel, rfl⟩
theorem eX6_year_55 : Dc cX6_year 55 (.iconst 0) 1 56 := ⟨by decide +kernel, rfl⟩
theorem eX6_year_56 : Dc cX6_year 56 (.istore 8) 2 58 := ⟨by decide +kernel, rfl⟩
theorem eX6_year_58 : Dc cX6_year 58 (.iload 8) 2 60 := ⟨by decide +kernel, rfl⟩
theorem eX6_year_60 : Dc cX6_year 60 (.iload_n 2) 1 61 := ⟨by decide +kernel, rfl⟩
theorem eX6_year_61 : Dc cX6_year 61 (.if_icmp .ge 100) 3 64 := ⟨by decide +kernel, rfl⟩
theorem eX6_year_64 : Dc cX6_year 64 (.bipush 75) 2 66 := ⟨by decide +kernel, rfl⟩
theorem eX6_year_66 : Dc cX6_year 66 (.iload 4) 2 68 := ⟨by decide +kernel, rfl⟩
theorem eX6_year_68 : Dc cX6_year 68 (.imul) 1 69 := ⟨by decide +kernel, rfl⟩
theorem eX6_year_69 : Dc cX6_year 69 (.bipush 74) 2 71 := ⟨by decide +kernel, rfl⟩
theorem eX6_year_71 : Dc cX6_year 71 (.iadd) 1 72 := ⟨by decide +kernel, rfl⟩
theorem eX6_year_72 : Dc cX6_year 72 (.ldc_w 263) 3 75 := ⟨by decide +kernel, rfl⟩
theorem eX6_year_75 : Dc cX6_year 75 (.irem) 1 76 := ⟨by decide +kernel, rfl⟩
theorem eX6_year_76 : Dc cX6_year 76 (.istore 4) 2 78 := ⟨by decide +kernel, rfl⟩
theorem eX6_year_78 : Dc cX6_year 78 (.aload_n 0) 1 79 := ⟨by decide +kernel, rfl⟩
theorem eX6_year_79 : Dc cX6_year 79 (.getfield 19) 3 82 := ⟨by decide +kernel, rfl⟩
theorem eX6_year_82 : Dc cX6_year 82 (.getfield 100) 3 85 := ⟨by decide +kernel, rfl⟩
theorem eX6_year_85 : Dc cX6_year 85 (.iload 4) 2 87 := ⟨by decide +kernel, rfl⟩
theorem eX6_year_87 : Dc cX6_year 87 (.iand) 1 88 := ⟨by decide +kernel, rfl⟩
theorem eX6_year_88 : Dc cX6_year 88 (.istore 9) 2 90 := ⟨by decide +kernel, rfl⟩
theorem eX6_year_90 : Dc cX6_year 90 (.iload 9) 2 92 := ⟨by decide +kernel, rfl⟩
theorem eX6_year_92 : Dc cX6_year 92 (.aload_n 0) 1 93 := ⟨by decide +kernel, rfl⟩
theorem eX6_year_93 : Dc cX6_year 93 (.getfield 32) 3 96 := ⟨by decide +kernel, rfl⟩
theorem eX6_year_96 : Dc cX6_year 96 (.aload_n 0) 1 97 := ⟨by decide +kernel, rfl⟩
theorem eX6_year_97 : Dc cX6_year 97 (.getfield 65) 3 100 := ⟨by decide +kernel, rfl⟩
theorem eX6_year_100 : Dc cX6_year 100 (.iload 4) 2 102 := ⟨by decide +kernel, rfl⟩
theorem eX6_year_102 : Dc cX6_year 102 (.sipush 256) 3 105 := ⟨by decide +kernel, rfl⟩
theorem eX6_year_105 : Dc cX6_year 105 (.idiv) 1 106 := ⟨by decide +kernel, rfl⟩
theorem eX6_year_106 : Dc cX6_year 106 (.iconst 4) 1 107 := ⟨by decide +kernel, rfl⟩
theorem eX6_year_107 : Dc cX6_year 107 (.irem) 1 108 := ⟨by decide +kernel, rfl⟩
theorem eX6_year_108 : Dc cX6_year 108 (.invokevirtual 264) 3 111 := ⟨by decide +kernel, rfl⟩
theorem eX6_year_111 : Dc cX6_year 111 (.iand) 1 112 := ⟨by decide +kernel, rfl⟩
theorem eX6_year_112 : Dc cX6_year 112 (.istore 10) 2 114 := ⟨by decide +kernel, rfl⟩
theorem eX6_year_114 : Dc cX6_year 114 (.iload 5) 2 116 := ⟨by decide +kernel, rfl⟩
theorem eX6_year_116 : Dc cX6_year 116 (.aload_n 0) 1 117 := ⟨by decide +kernel, rfl⟩
theorem eX6_year_117 : Dc cX6_year 117 (.getfield 19) 3 120 := ⟨by decide +kernel, rfl⟩
theorem eX6_year_120 : Dc cX6_year 120 (.iload 9) 2 122 := ⟨by decide +kernel, rfl⟩
theorem eX6_year_122 : Dc cX6_year 122 (.iload 10) 2 124 := ⟨by decide +kernel, rfl⟩
theorem eX6_year_124 : Dc cX6_year 124 (.invokevirtual 268) 3 127 := ⟨by decide +kernel, rfl⟩
theorem eX6_year_127 : Dc cX6_year 127 (.iadd) 1 128 := ⟨by decide +kernel, rfl⟩
theorem eX6_year_128 : Dc cX6_year 128 (.istore 5) 2 130 := ⟨by decide +kernel, rfl⟩
theorem eX6_year_130 : Dc cX6_year 130 (.iload 6) 2 132 := ⟨by decide +kernel, rfl⟩
theorem eX6_year_132 : Dc cX6_year 132 (.iload 10) 2 134 := ⟨by decide +kernel, rfl⟩
theorem eX6_year_134 : Dc cX6_year 134 (.invokestatic 121) 3 137 := ⟨by decide +kernel, rfl⟩
theorem eX6_year_137 : Dc cX6_year 137 (.iadd) 1 138 := ⟨by decide +kernel, rfl⟩
theorem eX6_year_138 : Dc cX6_year 138 (.istore 6) 2 140 := ⟨by decide +kernel, rfl⟩
theorem eX6_year_140 : Dc cX6_year 140 (.iload 7) 2 142 := ⟨by decide +kernel, rfl⟩
theorem eX6_year_142 : Dc cX6_year 142 (.iload 10) 2 144 := ⟨by decide +kernel, rfl⟩
theorem eX6_year_144 : Dc cX6_year 144 (.ifCond .ne 7) 3 147 := ⟨by decide +kernel, rfl⟩
theorem eX6_year_147 : Dc cX6_year 147 (.iconst 1) 1 148 := ⟨by decide +kernel, rfl⟩
theorem eX6_year_148 : Dc cX6_year 148 (.goto 4) 3 151 := ⟨by decide +kernel, rfl⟩
theorem eX6_year_151 : Dc cX6_year 151 (.iconst 0) 1 152 := ⟨by decide +kernel, rfl⟩
theorem eX6_year_152 : Dc cX6_year 152 (.iadd) 1 153 := ⟨by decide +kernel, rfl⟩
theorem eX6_year_153 : Dc cX6_year 153 (.istore 7) 2 155 := ⟨by decide +kernel, rfl⟩
theorem eX6_year_155 : Dc cX6_year 155 (.iinc 8 1) 3 158 := ⟨by decide +kernel, rfl⟩
theorem eX6_year_158 : Dc cX6_year 158 (.goto (-100)) 3 161 := ⟨by decide +kernel, rfl⟩
theorem eX6_year_161 : Dc cX6_year 161 (.iload_n 3) 1 162 := ⟨by decide +kernel, rfl⟩
theorem eX6_year_162 : Dc cX6_year 162 (.ifCond .ne 10) 3 165 := ⟨by decide +kernel, rfl⟩
theorem eX6_year_165 : Dc cX6_year 165 (.iload 5) 2 167 := ⟨by decide +kernel, rfl⟩
theorem eX6_year_167 : Dc cX6_year 167 (.ldc_w 271) 3 170 := ⟨by decide +kernel, rfl⟩
theorem eX6_year_170 : Dc cX6_year 170 (.iadd) 1 171 := ⟨by decide +kernel, rfl⟩
theorem eX6_year_171 : Dc cX6_year 171 (.ireturn) 1 172 := ⟨by decide +kernel, rfl⟩
theorem eX6_year_172 : Dc cX6_year 172 (.iload_n 3) 1 173 := ⟨by decide +kernel, rfl⟩
theorem eX6_year_173 : Dc cX6_year 173 (.iconst 1) 1 174 := ⟨by decide +kernel, rfl⟩
theorem eX6_year_174 : Dc cX6_year 174 (.if_icmp .ne 8) 3 177 := ⟨by decide +kernel, rfl⟩
theorem eX6_year_177 : Dc cX6_year 177 (.iload 6) 2 179 := ⟨by decide +kernel, rfl⟩
theorem eX6_year_179 : Dc cX6_year 179 (.goto 5) 3 182 := ⟨by decide +kernel, rfl⟩
theorem eX6_year_182 : Dc cX6_year 182 (.iload 7) 2 184 := ⟨by decide +kernel, rfl⟩
theorem eX6_year_184 : Dc cX6_year 184 (.ireturn) 1 185 := ⟨by decide +kernel, rfl⟩
def fX6_year_L58 (k : Int32 → Int32 → Int32 → Option (Int32 × SS)) (c : SS) (a2 : Int32) (a3 : Int32) : Nat → Int32 → Int32 → Int32 → Int32 → Int32 → Option (Int32 × SS)
  | 0, _, _, _, _, _ => none
  | n + 1, a4, a5, a6, a7, a8 => if a2 ≤ a8 then k a5 a6 a7 else Option.bind (fX4_ridersLate_27 c (irm ((irm (((75 : Int32) * a4) + (74 : Int32)) (65537 : Int32)) / (256 : Int32)) (4 : Int32))) (fun q7 => Option.bind (fX5_goodAmong c ((c.1 5) &&& (irm (((75 : Int32) * a4) + (74 : Int32)) (65537 : Int32))) (((c.1 5) &&& (irm (((75 : Int32) * a4) + (74 : Int32)) (65537 : Int32))) &&& q7)) (fun q8 => jn (fun (x9 : Int32) => fX6_year_L58 k c a2 a3 n (irm (((75 : Int32) * a4) + (74 : Int32)) (65537 : Int32)) (a5 + q8) (a6 + (fJ6_bitCount_0f7a4 (((c.1 5) &&& (irm (((75 : Int32) * a4) + (74 : Int32)) (65537 : Int32))) &&& q7))) (a7 + x9) (a8 + (1 : Int32))) (fun j152 => if (((c.1 5) &&& (irm (((75 : Int32) * a4) + (74 : Int32)) (65537 : Int32))) &&& q7) = (0 : Int32) then j152 (1 : Int32) else j152 (0 : Int32))))
def fX6_year (c : SS) (p1 : Int32) (p2 : Int32) (p3 : Int32) : Option (Int32 × SS) := if (fX6_within p1 (0 : Int32) (9999 : Int32)) = (0 : Int32) then some ((-2 : Int32), c) else if (fX6_within p2 (1 : Int32) (99 : Int32)) = (0 : Int32) then some ((-2 : Int32), c) else if (fX6_within p3 (0 : Int32) (2 : Int32)) = (0 : Int32) then some ((-2 : Int32), c) else Option.bind (fX6_readGoodHold c) (fun q4 => if q4.1 = (0 : Int32) then some ((-5 : Int32), q4.2) else fX6_year_L58 (fun (x11 : Int32) (x12 : Int32) (x13 : Int32) => if p3 = (0 : Int32) then some ((x11 + (100000 : Int32)), q4.2) else if p3 = (1 : Int32) then some (x12, q4.2) else some (x13, q4.2)) q4.2 p2 p3 fu p1 (0 : Int32) (0 : Int32) (0 : Int32) (0 : Int32))
set_option maxRecDepth 20000 in
theorem ctX6_year_L58 (l : Launch) (G : tg_G) (A : Nat → Nat) (k : Int32 → Int32 → Int32 → Option (Int32 × SS)) (c : SS) (a2 : Int32) (a3 : Int32) {z : Int32 × SS} (hk : ∀ (e5 : Int32) (e6 : Int32) (e7 : Int32), k e5 e6 e7 = some z → V l G (tg_Zm G (fun v w1 => v = some (.int z.1) ∧ w1 = wC G A z.2) 0 0) tg_E0 (tg_R 4 87) "TramGod" "year" cX6_year 11 (some .int) 161 [(3, .int a3), (5, .int e5), (6, .int e6), (7, .int e7)] [] (wC G A c) 0 0) : ∀ (n : Nat) (a4 : Int32) (a5 : Int32) (a6 : Int32) (a7 : Int32) (a8 : Int32), fX6_year_L58 k c a2 a3 n a4 a5 a6 a7 a8 = some z → V l G (tg_Zm G (fun v w1 => v = some (.int z.1) ∧ w1 = wC G A z.2) 0 0) tg_E0 (tg_R 4 87) "TramGod" "year" cX6_year 11 (some .int) 58 [(0, .ref (A 0)), (2, .int a2), (3, .int a3), (4, .int a4), (5, .int a5), (6, .int a6), (7, .int a7), (8, .int a8)] [] (wC G A c) 0 0 := by
  intro n
  induction n with
  | zero => intro a4 a5 a6 a7 a8 h; exact absurd h (by simp [fX6_year_L58])
  | succ n ih =>
    intro a4 a5 a6 a7 a8 h
    unfold fX6_year_L58 at h
    refine V_iload eX6_year_58 7 rfl ?_
    refine V_iload_n eX6_year_60 1 rfl ?_
    refine V_icmp_ge (tgt := 161) eX6_year_61 rfl (fun hb6 => ?_) (fun hb6 => ?_)
    · replace h := (if_pos hb6).symm.trans h
      refine V_lv (lv' := [(3, .int a3), (5, .int a5), (6, .int a6), (7, .int a7)]) [2, 4, 5, 6] rfl ?_
      exact hk a5 a6 a7 h
    · replace h := (if_neg hb6).symm.trans h
      refine V_bipush (v := (75 : Int32)) eX6_year_64 rfl ?_
      refine V_iload eX6_year_66 3 rfl ?_
      refine V_imul eX6_year_68 ?_
      refine V_bipush (v := (74 : Int32)) eX6_year_69 rfl ?_
      refine V_iadd eX6_year_71 ?_
      refine V_ldcw eX6_year_72 tw_611 ?_
      refine V_irem eX6_year_75 (by decide) ?_
      refine V_istore (lv' := [(4, .int (irm (((75 : Int32) * a4) + (74 : Int32)) (65537 : Int32))), (0, .ref (A 0)), (2, .int a2), (3, .int a3), (5, .int a5), (6, .int a6), (7, .int a7), (8, .int a8)]) eX6_year_76 (Nat.le_of_ble_eq_true rfl) rfl ?_
      refine V_aload_n eX6_year_78 1 rfl ?_
      refine V_get (v := .ref (A 3)) eX6_year_79 inX6 0 rfl rfl 1 (Nat.le_of_ble_eq_true rfl) tw_208 rfl ?_
      refine V_get (v := .int (c.1 5)) eX6_year_82 inX5 3 rfl rfl 4 (Nat.le_of_ble_eq_true rfl) tw_55 rfl ?_
      refine V_iload eX6_year_85 0 rfl ?_
      refine V_iand eX6_year_87 ?_
      refine V_istore (lv' := [(9, .int ((c.1 5) &&& (irm (((75 : Int32) * a4) + (74 : Int32)) (65537 : Int32)))), (4, .int (irm (((75 : Int32) * a4) + (74 : Int32)) (65537 : Int32))), (0, .ref (A 0)), (2, .int a2), (3, .int a3), (5, .int a5), (6, .int a6), (7, .int a7), (8, .int a8)]) eX6_year_88 (Nat.le_of_ble_eq_true rfl) rfl ?_
      refine V_iload eX6_year_90 0 rfl ?_
      refine V_aload_n eX6_year_92 2 rfl ?_
      refine V_get (v := .ref (A 11)) eX6_year_93 inX6 0 rfl rfl 3 (Nat.le_of_ble_eq_true rfl) tw_210 rfl ?_
      refine V_aload_n eX6_year_96 2 rfl ?_
      refine V_get (v := .ref (A 27)) eX6_year_97 inX6 0 rfl rfl 8 (Nat.le_of_ble_eq_true rfl) tw_215 rfl ?_
      refine V_iload eX6_year_100 1 rfl ?_
      refine V_sipush (v := (256 : Int32)) eX6_year_102 rfl ?_
      refine V_idiv eX6_year_105 (by decide) ?_
      refine V_iconst (v := (4 : Int32)) eX6_year_106 rfl ?_
      refine V_irem eX6_year_107 (by decide) ?_
      obtain ⟨q7, hc7, h⟩ := Option.bind_eq_some_iff.mp h
      refine V_callVi (rest := [.int ((c.1 5) &&& (irm (((75 : Int32) * a4) + (74 : Int32)) (65537 : Int32)))]) eX6_year_108 (ctX4_ridersLate_27 l G A c (irm ((irm (((75 : Int32) * a4) + (74 : Int32)) (65537 : Int32)) / (256 : Int32)) (4 : Int32)) hc7) tc_369 tw_612 tw_4 tw_367 tw_368 11 rfl rfl hdX4_ridersLate rfl ⟨Nat.le_of_ble_eq_true rfl, Nat.le_of_ble_eq_true rfl⟩ rfl (Nat.le_of_ble_eq_true rfl) ⟨Nat.zero_le _, Nat.zero_le _⟩ ?_
      refine V_iand eX6_year_111 ?_
      refine V_istore (lv' := [(10, .int (((c.1 5) &&& (irm (((75 : Int32) * a4) + (74 : Int32)) (65537 : Int32))) &&& q7)), (9, .int ((c.1 5) &&& (irm (((75 : Int32) * a4) + (74 : Int32)) (65537 : Int32)))), (4, .int (irm (((75 : Int32) * a4) + (74 : Int32)) (65537 : Int32))), (0, .ref (A 0)), (2, .int a2), (3, .int a3), (5, .int a5), (6, .int a6), (7, .int a7), (8, .int a8)]) eX6_year_112 (Nat.le_of_ble_eq_true rfl) rfl ?_
      refine V_iload eX6_year_114 6 rfl ?_
      refine V_aload_n eX6_year_116 3 rfl ?_
      refine V_get (v := .ref (A 3)) eX6_year_117 inX6 0 rfl rfl 1 (Nat.le_of_ble_eq_true rfl) tw_208 rfl ?_
      refine V_iload eX6_year_120 1 rfl ?_
      refine V_iload eX6_year_122 0 rfl ?_
      obtain ⟨q8, hc8, h⟩ := Option.bind_eq_some_iff.mp h
      refine V_callVi (rest := [.int a5]) eX6_year_124 (ctX5_goodAmong l G A c ((c.1 5) &&& (irm (((75 : Int32) * a4) + (74 : Int32)) (65537 : Int32))) (((c.1 5) &&& (irm (((75 : Int32) * a4) + (74 : Int32)) (65537 : Int32))) &&& q7) hc8) tc_381 tw_613 tw_3 tw_379 tw_380 3 rfl rfl hdX5_goodAmong rfl ⟨Nat.le_of_ble_eq_true rfl, Nat.le_of_ble_eq_true rfl⟩ rfl (Nat.le_of_ble_eq_true rfl) ⟨Nat.zero_le _, Nat.zero_le _⟩ ?_
      refine V_iadd eX6_year_127 ?_
      refine V_istore (lv' := [(5, .int (a5 + q8)), (10, .int (((c.1 5) &&& (irm (((75 : Int32) * a4) + (74 : Int32)) (65537 : Int32))) &&& q7)), (9, .int ((c.1 5) &&& (irm (((75 : Int32) * a4) + (74 : Int32)) (65537 : Int32)))), (4, .int (irm (((75 : Int32) * a4) + (74 : Int32)) (65537 : Int32))), (0, .ref (A 0)), (2, .int a2), (3, .int a3), (6, .int a6), (7, .int a7), (8, .int a8)]) eX6_year_128 (Nat.le_of_ble_eq_true rfl) rfl ?_
      refine V_iload eX6_year_130 7 rfl ?_
      refine V_iload eX6_year_132 1 rfl ?_
      refine V_callSi (rest := [.int a6]) eX6_year_134 (ctJ6_bitCount_0f7a4 l G _ (((c.1 5) &&& (irm (((75 : Int32) * a4) + (74 : Int32)) (65537 : Int32))) &&& q7) rfl) tc_300 tw_298 tw_10 tw_299 hdJ6_bitCount_0f7a4 rfl ⟨Nat.le_of_ble_eq_true rfl, Nat.le_of_ble_eq_true rfl⟩ rfl (Nat.le_of_ble_eq_true rfl) ⟨Nat.zero_le _, Nat.zero_le _⟩ ?_
      refine V_iadd eX6_year_137 ?_
      refine V_istore (lv' := [(6, .int (a6 + (fJ6_bitCount_0f7a4 (((c.1 5) &&& (irm (((75 : Int32) * a4) + (74 : Int32)) (65537 : Int32))) &&& q7)))), (5, .int (a5 + q8)), (10, .int (((c.1 5) &&& (irm (((75 : Int32) * a4) + (74 : Int32)) (65537 : Int32))) &&& q7)), (9, .int ((c.1 5) &&& (irm (((75 : Int32) * a4) + (74 : Int32)) (65537 : Int32)))), (4, .int (irm (((75 : Int32) * a4) + (74 : Int32)) (65537 : Int32))), (0, .ref (A 0)), (2, .int a2), (3, .int a3), (7, .int a7), (8, .int a8)]) eX6_year_138 (Nat.le_of_ble_eq_true rfl) rfl ?_
      refine V_iload eX6_year_140 8 rfl ?_
      refine V_iload eX6_year_142 2 rfl ?_
      refine jn_elim h (fun j => ∀ (x9 : Int32), j x9 = some z → V l G (tg_Zm G (fun v w1 => v = some (.int z.1) ∧ w1 = wC G A z.2) 0 0) tg_E0 (tg_R 4 87) "TramGod" "year" cX6_year 11 (some .int) 152 [(0, .ref (A 0)), (2, .int a2), (3, .int a3), (4, .int (irm (((75 : Int32) * a4) + (74 : Int32)) (65537 : Int32))), (5, .int (a5 + q8)), (6, .int (a6 + (fJ6_bitCount_0f7a4 (((c.1 5) &&& (irm (((75 : Int32) * a4) + (74 : Int32)) (65537 : Int32))) &&& q7)))), (8, .int a8)] [.int x9, .int a7] (wC G A c) 0 0) ?_ (fun j152 hj152 h => ?_)
      · intro x9 h
        refine V_iadd eX6_year_152 ?_
        refine V_istore (lv' := [(7, .int (a7 + x9)), (0, .ref (A 0)), (2, .int a2), (3, .int a3), (4, .int (irm (((75 : Int32) * a4) + (74 : Int32)) (65537 : Int32))), (5, .int (a5 + q8)), (6, .int (a6 + (fJ6_bitCount_0f7a4 (((c.1 5) &&& (irm (((75 : Int32) * a4) + (74 : Int32)) (65537 : Int32))) &&& q7)))), (8, .int a8)]) eX6_year_153 (Nat.le_of_ble_eq_true rfl) rfl ?_
        refine V_iinc (v := (a8 + (1 : Int32))) (lv' := [(8, .int (a8 + (1 : Int32))), (7, .int (a7 + x9)), (0, .ref (A 0)), (2, .int a2), (3, .int a3), (4, .int (irm (((75 : Int32) * a4) + (74 : Int32)) (65537 : Int32))), (5, .int (a5 + q8)), (6, .int (a6 + (fJ6_bitCount_0f7a4 (((c.1 5) &&& (irm (((75 : Int32) * a4) + (74 : Int32)) (65537 : Int32))) &&& q7))))]) eX6_year_155 7 rfl rfl (Nat.le_of_ble_eq_true rfl) rfl ?_
        refine V_goto (tgt := 58) eX6_year_158 rfl ?_
        refine V_lv (lv' := [(0, .ref (A 0)), (2, .int a2), (3, .int a3), (4, .int (irm (((75 : Int32) * a4) + (74 : Int32)) (65537 : Int32))), (5, .int (a5 + q8)), (6, .int (a6 + (fJ6_bitCount_0f7a4 (((c.1 5) &&& (irm (((75 : Int32) * a4) + (74 : Int32)) (65537 : Int32))) &&& q7)))), (7, .int (a7 + x9)), (8, .int (a8 + (1 : Int32)))]) [2, 3, 4, 5, 6, 7, 1, 0] rfl ?_
        exact ih (irm (((75 : Int32) * a4) + (74 : Int32)) (65537 : Int32)) (a5 + q8) (a6 + (fJ6_bitCount_0f7a4 (((c.1 5) &&& (irm (((75 : Int32) * a4) + (74 : Int32)) (65537 : Int32))) &&& q7))) (a7 + x9) (a8 + (1 : Int32)) h
      refine V_if_ne (tgt := 151) eX6_year_144 rfl (fun hb10 => ?_) (fun hb10 => ?_)
      · replace h := (if_neg hb10).symm.trans h
        refine V_iconst (v := (0 : Int32)) eX6_year_151 rfl ?_
        refine V_lv (lv' := [(0, .ref (A 0)), (2, .int a2), (3, .int a3), (4, .int (irm (((75 : Int32) * a4) + (74 : Int32)) (65537 : Int32))), (5, .int (a5 + q8)), (6, .int (a6 + (fJ6_bitCount_0f7a4 (((c.1 5) &&& (irm (((75 : Int32) * a4) + (74 : Int32)) (65537 : Int32))) &&& q7)))), (8, .int a8)]) [5, 6, 7, 4, 1, 0, 9] rfl ?_
        exact hj152 (0 : Int32) h
      · replace h := (if_pos hb10).symm.trans h
        refine V_iconst (v := (1 : Int32)) eX6_year_147 rfl ?_
        refine V_goto (tgt := 152) eX6_year_148 rfl ?_
        refine V_lv (lv' := [(0, .ref (A 0)), (2, .int a2), (3, .int a3), (4, .int (irm (((75 : Int32) * a4) + (74 : Int32)) (65537 : Int32))), (5, .int (a5 + q8)), (6, .int (a6 + (fJ6_bitCount_0f7a4 (((c.1 5) &&& (irm (((75 : Int32) * a4) + (74 : Int32)) (65537 : Int32))) &&& q7)))), (8, .int a8)]) [5, 6, 7, 4, 1, 0, 9] rfl ?_
        exact hj152 (1 : Int32) h
set_option maxRecDepth 20000 in
theorem ctX6_year (l : Launch) (G : tg_G) (A : Nat → Nat) (c : SS) (p1 : Int32) (p2 : Int32) (p3 : Int32) {z : Int32 × SS} (h : fX6_year c p1 p2 p3 = some z) : Mt l G yX6_year cX6_year 11 (some .int) (tg_R 4 87) [.ref (A 0), .int p1, .int p2, .int p3] (wC G A c) (fun v w1 => v = some (.int z.1) ∧ w1 = wC G A z.2) := by
  refine Mt_of2 (own := "TramGod") (nm := "year") rfl rfl rfl (Nat.le_of_ble_eq_true rfl) (lv := [(0, .ref (A 0)), (1, .int p1), (2, .int p2), (3, .int p3)]) rfl ?_
  unfold fX6_year at h
  refine V_iload_n eX6_year_0 1 rfl ?_
  refine V_iconst (v := (0 : Int32)) eX6_year_1 rfl ?_
  refine V_sipush (v := (9999 : Int32)) eX6_year_2 rfl ?_
  refine V_callSi (rest := []) eX6_year_5 (ctX6_within l G _ p1 (0 : Int32) (9999 : Int32) rfl) tc_241 tw_239 tw_1 tw_240 hdX6_within rfl ⟨Nat.le_of_ble_eq_true rfl, Nat.le_of_ble_eq_true rfl⟩ rfl (Nat.le_of_ble_eq_true rfl) ⟨Nat.zero_le _, Nat.zero_le _⟩ ?_
  refine V_if_eq (tgt := 30) eX6_year_8 rfl (fun hb1 => ?_) (fun hb1 => ?_)
  · replace h := (if_pos hb1).symm.trans h
    refine V_bipush (v := (-2 : Int32)) eX6_year_30 rfl ?_
    obtain rfl := Option.some.inj h
    exact V_ret eX6_year_32 rfl ⟨rfl, rfl⟩
  · replace h := (if_neg hb1).symm.trans h
    refine V_iload_n eX6_year_11 2 rfl ?_
    refine V_iconst (v := (1 : Int32)) eX6_year_12 rfl ?_
    refine V_bipush (v := (99 : Int32)) eX6_year_13 rfl ?_
    refine V_callSi (rest := []) eX6_year_15 (ctX6_within l G _ p2 (1 : Int32) (99 : Int32) rfl) tc_241 tw_239 tw_1 tw_240 hdX6_within rfl ⟨Nat.le_of_ble_eq_true rfl, Nat.le_of_ble_eq_true rfl⟩ rfl (Nat.le_of_ble_eq_true rfl) ⟨Nat.zero_le _, Nat.zero_le _⟩ ?_
    refine V_if_eq (tgt := 30) eX6_year_18 rfl (fun hb2 => ?_) (fun hb2 => ?_)
    · replace h := (if_pos hb2).symm.trans h
      refine V_bipush (v := (-2 : Int32)) eX6_year_30 rfl ?_
      obtain rfl := Option.some.inj h
      exact V_ret eX6_year_32 rfl ⟨rfl, rfl⟩
    · replace h := (if_neg hb2).symm.trans h
      refine V_iload_n eX6_year_21 3 rfl ?_
      refine V_iconst (v := (0 : Int32)) eX6_year_22 rfl ?_
      refine V_iconst (v := (2 : Int32)) eX6_year_23 rfl ?_
      refine V_callSi (rest := []) eX6_year_24 (ctX6_within l G _ p3 (0 : Int32) (2 : Int32) rfl) tc_241 tw_239 tw_1 tw_240 hdX6_within rfl ⟨Nat.le_of_ble_eq_true rfl, Nat.le_of_ble_eq_true rfl⟩ rfl (Nat.le_of_ble_eq_true rfl) ⟨Nat.zero_le _, Nat.zero_le _⟩ ?_
      refine V_if_ne (tgt := 33) eX6_year_27 rfl (fun hb3 => ?_) (fun hb3 => ?_)
      · replace h := (if_neg hb3).symm.trans h
        refine V_aload_n eX6_year_33 0 rfl ?_
        obtain ⟨q4, hc4, h⟩ := Option.bind_eq_some_iff.mp h
        refine V_callVi (rest := []) eX6_year_34 (ctX6_readGoodHold l G A c hc4) tc_348 tw_345 tw_1 tw_347 ts_3 0 rfl rfl hdX6_readGoodHold rfl ⟨Nat.le_of_ble_eq_true rfl, Nat.le_of_ble_eq_true rfl⟩ rfl (Nat.le_of_ble_eq_true rfl) ⟨Nat.zero_le _, Nat.zero_le _⟩ ?_
        refine V_if_ne (tgt := 43) eX6_year_37 rfl (fun hb5 => ?_) (fun hb5 => ?_)
        · replace h := (if_neg hb5).symm.trans h
          refine V_iload_n eX6_year_43 1 rfl ?_
          refine V_istore (lv' := [(4, .int p1), (0, .ref (A 0)), (1, .int p1), (2, .int p2), (3, .int p3)]) eX6_year_44 (Nat.le_of_ble_eq_true rfl) rfl ?_
          refine V_iconst (v := (0 : Int32)) eX6_year_46 rfl ?_
          refine V_istore (lv' := [(5, .int (0 : Int32)), (4, .int p1), (0, .ref (A 0)), (1, .int p1), (2, .int p2), (3, .int p3)]) eX6_year_47 (Nat.le_of_ble_eq_true rfl) rfl ?_
          refine V_iconst (v := (0 : Int32)) eX6_year_49 rfl ?_
          refine V_istore (lv' := [(6, .int (0 : Int32)), (5, .int (0 : Int32)), (4, .int p1), (0, .ref (A 0)), (1, .int p1), (2, .int p2), (3, .int p3)]) eX6_year_50 (Nat.le_of_ble_eq_true rfl) rfl ?_
          refine V_iconst (v := (0 : Int32)) eX6_year_52 rfl ?_
          refine V_istore (lv' := [(7, .int (0 : Int32)), (6, .int (0 : Int32)), (5, .int (0 : Int32)), (4, .int p1), (0, .ref (A 0)), (1, .int p1), (2, .int p2), (3, .int p3)]) eX6_year_53 (Nat.le_of_ble_eq_true rfl) rfl ?_
          refine V_iconst (v := (0 : Int32)) eX6_year_55 rfl ?_
          refine V_istore (lv' := [(8, .int (0 : Int32)), (7, .int (0 : Int32)), (6, .int (0 : Int32)), (5, .int (0 : Int32)), (4, .int p1), (0, .ref (A 0)), (1, .int p1), (2, .int p2), (3, .int p3)]) eX6_year_56 (Nat.le_of_ble_eq_true rfl) rfl ?_
          refine V_lv (lv' := [(0, .ref (A 0)), (2, .int p2), (3, .int p3), (4, .int p1), (5, .int (0 : Int32)), (6, .int (0 : Int32)), (7, .int (0 : Int32)), (8, .int (0 : Int32))]) [5, 7, 8, 4, 3, 2, 1, 0] rfl ?_
          refine ctX6_year_L58 l G A _ q4.2 p2 p3 ?_ fu p1 (0 : Int32) (0 : Int32) (0 : Int32) (0 : Int32) h
          · intro x11 x12 x13 h
            refine V_iload_n eX6_year_161 0 rfl ?_
            refine V_if_ne (tgt := 172) eX6_year_162 rfl (fun hb14 => ?_) (fun hb14 => ?_)
            · replace h := (if_neg hb14).symm.trans h
              refine V_iload_n eX6_year_172 0 rfl ?_
              refine V_iconst (v := (1 : Int32)) eX6_year_173 rfl ?_
              refine V_icmp_ne (tgt := 182) eX6_year_174 rfl (fun hb15 => ?_) (fun hb15 => ?_)
              · replace h := (if_neg hb15).symm.trans h
                refine V_iload eX6_year_182 3 rfl ?_
                obtain rfl := Option.some.inj h
                exact V_ret eX6_year_184 rfl ⟨rfl, rfl⟩
              · replace h := (if_pos hb15).symm.trans h
                refine V_iload eX6_year_177 2 rfl ?_
                refine V_goto (tgt := 184) eX6_year_179 rfl ?_
                obtain rfl := Option.some.inj h
                exact V_ret eX6_year_184 rfl ⟨rfl, rfl⟩
            · replace h := (if_pos hb14).symm.trans h
              refine V_iload eX6_year_165 1 rfl ?_
              refine V_ldcw eX6_year_167 tw_614 ?_
              refine V_iadd eX6_year_170 ?_
              obtain rfl := Option.some.inj h
              exact V_ret eX6_year_171 rfl ⟨rfl, rfl⟩
        · replace h := (if_pos hb5).symm.trans h
          refine V_bipush (v := (-5 : Int32)) eX6_year_40 rfl ?_
          obtain rfl := Option.some.inj h
          exact V_ret eX6_year_42 rfl ⟨rfl, rfl⟩
      · replace h := (if_pos hb3).symm.trans h
        refine V_bipush (v := (-2 : Int32)) eX6_year_30 rfl ?_
        obtain rfl := Option.some.inj h
        exact V_ret eX6_year_32 rfl ⟨rfl, rfl⟩
theorem hdX5_tellPerson : yX5_tellPerson.cls ≠ "java/lang/invoke/MethodHandle" ∧ yX5_tellPerson.cls ≠ "java/lang/invoke/VarHandle" ∧ (parseMethodDescriptor yX5_tellPerson.desc).map (fun d => d.parameters.length) = some 2 := by decide +kernel
theorem eX5_tellPerson_0 : Dc cX5_tellPerson 0 (.aload_n 0) 1 1 := ⟨by decide +kernel, rfl⟩
theorem eX5_tellPerson_1 : Dc cX5_tellPerson 1 (.iload_n 1) 1 2 := ⟨by decide +kernel, rfl⟩
theorem eX5_tellPerson_2 : Dc cX5_tellPerson 2 (.invokevirtual 96) 3 5 := ⟨by decide +kernel, rfl⟩
theorem eX5_tellPerson_5 : Dc cX5_tellPerson 5 (.ifCond .ne 6) 3 8 := ⟨by decide +kernel, rfl⟩
theorem eX5_tellPerson_8 : Dc cX5_tellPerson 8 (.bipush (-2)) 2 10 := ⟨by decide +kernel, rfl⟩
theorem eX5_tellPerson_10 : Dc cX5_tellPerson 10 (.ireturn) 1 11 := ⟨by decide +kernel, rfl⟩
theorem eX5_tellPerson_11 : Dc cX5_tellPerson 11 (.iload_n 2) 1 12 := ⟨by decide +kernel, rfl⟩
theorem eX5_tellPerson_12 : Dc cX5_tellPerson 12 (.tableswitch 91 0 5 #[40, 47, 54, 64, 74, 84]) 40 52 := ⟨by decide +kernel, rfl⟩
theorem eX5_tellPerson_52 : Dc cX5_tellPerson 52 (.aload_n 0) 1 53 := ⟨by decide +kernel, rfl⟩
theorem eX5_tellPerson_53 : Dc cX5_tellPerson 53 (.getfield 25) 3 56 := ⟨by decide +kernel, rfl⟩
theorem eX5_tellPerson_56 : Dc cX5_tellPerson 56 (.iload_n 1) 1 57 := ⟨by decide +kernel, rfl⟩
theorem eX5_tellPerson_57 : Dc cX5_tellPerson 57 (.iaload) 1 58 := ⟨by decide +kernel, rfl⟩
theorem eX5_tellPerson_58 : Dc cX5_tellPerson 58 (.ireturn) 1 59 := ⟨by decide +kernel, rfl⟩
theorem eX5_tellPerson_59 : Dc cX5_tellPerson 59 (.aload_n 0) 1 60 := ⟨by decide +kernel, rfl⟩
theorem eX5_tellPerson_60 : Dc cX5_tellPerson 60 (.getfield 28) 3 63 := ⟨by decide +kernel, rfl⟩
theorem eX5_tellPerson_63 : Dc cX5_tellPerson 63 (.iload_n 1) 1 64 := ⟨by decide +kernel, rfl⟩
theorem eX5_tellPerson_64 : Dc cX5_tellPerson 64 (.iaload) 1 65 := ⟨by decide +kernel, rfl⟩
theorem eX5_tellPerson_65 : Dc cX5_tellPerson 65 (.ireturn) 1 66 := ⟨by decide +kernel, rfl⟩
theorem eX5_tellPerson_66 : Dc cX5_tellPerson 66 (.aload_n 0) 1 67 := ⟨by decide +kernel, rfl⟩
theorem eX5_tellPerson_67 : Dc cX5_tellPerson 67 (.getfield 31) 3 70 := ⟨by decide +kernel, rfl⟩
theorem eX5_tellPerson_70 : Dc cX5_tellPerson 70 (.iload_n 1) 1 71 := ⟨by decide +kernel, rfl⟩
theorem eX5_tellPerson_71 : Dc cX5_tellPerson 71 (.iaload) 1 72 := ⟨by decide +kernel, rfl⟩
theorem eX5_tellPerson_72 : Dc cX5_tellPerson 72 (.bipush 10) 2 74 := ⟨by decide +kernel, rfl⟩
theorem eX5_tellPerson_74 : Dc cX5_tellPerson 74 (.iadd) 1 75 := ⟨by decide +kernel, rfl⟩
theorem eX5_tellPerson_75 : Dc cX5_tellPerson 75 (.ireturn) 1 76 := ⟨by decide +kernel, rfl⟩
theorem eX5_tellPerson_76 : Dc cX5_tellPerson 76 (.aload_n 0) 1 77 := ⟨by decide +kernel, rfl⟩
theorem eX5_tellPerson_77 : Dc cX5_tellPerson 77 (.getfield 34) 3 80 := ⟨by decide +kernel, rfl⟩
theorem eX5_tellPerson_80 : Dc cX5_tellPerson 80 (.iload_n 1) 1 81 := ⟨by decide +kernel, rfl⟩
theorem eX5_tellPerson_81 : Dc cX5_tellPerson 81 (.iaload) 1 82 := ⟨by decide +kernel, rfl⟩
theorem eX5_tellPerson_82 : Dc cX5_tellPerson 82 (.bipush 10) 2 84 := ⟨by decide +kernel, rfl⟩
theorem eX5_tellPerson_84 : Dc cX5_tellPerson 84 (.iadd) 1 85 := ⟨by decide +kernel, rfl⟩
theorem eX5_tellPerson_85 : Dc cX5_tellPerson 85 (.ireturn) 1 86 := ⟨by decide +kernel, rfl⟩
theorem eX5_tellPerson_86 : Dc cX5_tellPerson 86 (.aload_n 0) 1 87 := ⟨by decide +kernel, rfl⟩
theorem eX5_tellPerson_87 : Dc cX5_tellPerson 87 (.getfield 37) 3 90 := ⟨by decide +kernel, rfl⟩
theorem eX5_tellPerson_90 : Dc cX5_tellPerson 90 (.iload_n 1) 1 91 := ⟨by decide +kernel, rfl⟩
theorem eX5_tellPerson_91 : Dc cX5_tellPerson 91 (.iaload) 1 92 := ⟨by decide +kernel, rfl⟩
theorem eX5_tellPerson_92 : Dc cX5_tellPerson 92 (.bipush 10) 2 94 := ⟨by decide +kernel, rfl⟩
theorem eX5_tellPerson_94 : Dc cX5_tellPerson 94 (.iadd) 1 95 := ⟨by decide +kernel, rfl⟩
theorem eX5_tellPerson_95 : Dc cX5_tellPerson 95 (.ireturn) 1 96 := ⟨by decide +kernel, rfl⟩
theorem eX5_tellPerson_96 : Dc cX5_tellPerson 96 (.aload_n 0) 1 97 := ⟨by decide +kernel, rfl⟩
theorem eX5_tellPerson_97 : Dc cX5_tellPerson 97 (.getfield 40) 3 100 := ⟨by decide +kernel, rfl⟩
theorem eX5_tellPerson_100 : Dc cX5_tellPerson 100 (.iload_n 1) 1 101 := ⟨by decide +kernel, rfl⟩
theorem eX5_tellPerson_101 : Dc cX5_tellPerson 101 (.iaload) 1 102 := ⟨by decide +kernel, rfl⟩
theorem eX5_tellPerson_102 : Dc cX5_tellPerson 102 (.ireturn) 1 103 := ⟨by decide +kernel, rfl⟩
theorem eX5_tellPerson_103 : Dc cX5_tellPerson 103 (.bipush (-2)) 2 105 := ⟨by decide +kernel, rfl⟩
theorem eX5_tellPerson_105 : Dc cX5_tellPerson 105 (.ireturn) 1 106 := ⟨by decide +kernel, rfl⟩
def fX5_tellPerson (c : SS) (p1 : Int32) (p2 : Int32) : Option (Int32) := if (fX5_isPerson c p1) = (0 : Int32) then some (-2 : Int32) else if p2 = (0 : Int32) then ald 8 (c.2 2) p1 (fun v3 => some v3) else (if p2 = (1 : Int32) then ald 8 (c.2 3) p1 (fun v5 => some v5) else (if p2 = (2 : Int32) then ald 8 (c.2 4) p1 (fun v7 => some (v7 + (10 : Int32))) else (if p2 = (3 : Int32) then ald 8 (c.2 5) p1 (fun v9 => some (v9 + (10 : Int32))) else (if p2 = (4 : Int32) then ald 8 (c.2 6) p1 (fun v11 => some (v11 + (10 : Int32))) else (if p2 = (5 : Int32) then ald 8 (c.2 7) p1 (fun v13 => some v13) else (swo p2 (0 : Int32) (5 : Int32) (some (-2 : Int32))))))))
set_option maxRecDepth 20000 in
theorem ctX5_tellPerson (l : Launch) (G : tg_G) (A : Nat → Nat) (c : SS) (p1 : Int32) (p2 : Int32) {z : Int32} (h : fX5_tellPerson c p1 p2 = some z) : Mt l G yX5_tellPerson cX5_tellPerson 3 (some .int) (tg_R 2 43) [.ref (A 3), .int p1, .int p2] (wC G A c) (fun v w1 => v = some (.int z) ∧ w1 = wC G A c) := by
  refine Mt_of2 (own := "TramGod$World") (nm := "tellPerson") rfl rfl rfl (Nat.le_of_ble_eq_true rfl) (lv := [(0, .ref (A 3)), (1, .int p1), (2, .int p2)]) rfl ?_
  unfold fX5_tellPerson at h
  refine V_aload_n eX5_tellPerson_0 0 rfl ?_
  refine V_iload_n eX5_tellPerson_1 1 rfl ?_
  refine V_callVi (rest := []) eX5_tellPerson_2 (ctX5_isPerson l G A c p1 rfl) tc_311 tw_483 tw_3 tw_309 tw_310 3 rfl rfl hdX5_isPerson rfl ⟨Nat.le_of_ble_eq_true rfl, Nat.le_of_ble_eq_true rfl⟩ rfl (Nat.le_of_ble_eq_true rfl) ⟨Nat.zero_le _, Nat.zero_le _⟩ ?_
  refine V_if_ne (tgt := 11) eX5_tellPerson_5 rfl (fun hb1 => ?_) (fun hb1 => ?_)
  · replace h := (if_neg hb1).symm.trans h
    refine V_iload_n eX5_tellPerson_11 2 rfl ?_
    by_cases hs2 : p2 = (0 : Int32)
    · replace h := (if_pos hs2).symm.trans h
      refine V_tin (tgt := 52) (40) eX5_tellPerson_12 (by rw [hs2]; decide) (by rw [hs2]; decide) (by rw [hs2]; decide) rfl ?_
      refine V_aload_n eX5_tellPerson_52 0 rfl ?_
      refine V_get (v := .ref (A 5)) eX5_tellPerson_53 inX5 3 rfl rfl 9 (Nat.le_of_ble_eq_true rfl) tw_64 rfl ?_
      refine V_iload_n eX5_tellPerson_56 1 rfl ?_
      obtain ⟨v3, hi3, ev3, h⟩ := ald_some h
      refine V_ialdv eX5_tellPerson_57 5 rfl hi3 ev3 ?_
      obtain rfl := Option.some.inj h
      exact V_ret eX5_tellPerson_58 rfl ⟨rfl, rfl⟩
    replace h := (if_neg hs2).symm.trans h
    by_cases hs4 : p2 = (1 : Int32)
    · replace h := (if_pos hs4).symm.trans h
      refine V_tin (tgt := 59) (47) eX5_tellPerson_12 (by rw [hs4]; decide) (by rw [hs4]; decide) (by rw [hs4]; decide) rfl ?_
      refine V_aload_n eX5_tellPerson_59 0 rfl ?_
      refine V_get (v := .ref (A 6)) eX5_tellPerson_60 inX5 3 rfl rfl 10 (Nat.le_of_ble_eq_true rfl) tw_68 rfl ?_
      refine V_iload_n eX5_tellPerson_63 1 rfl ?_
      obtain ⟨v5, hi5, ev5, h⟩ := ald_some h
      refine V_ialdv eX5_tellPerson_64 6 rfl hi5 ev5 ?_
      obtain rfl := Option.some.inj h
      exact V_ret eX5_tellPerson_65 rfl ⟨rfl, rfl⟩
    replace h := (if_neg hs4).symm.trans h
    by_cases hs6 : p2 = (2 : Int32)
    · replace h := (if_pos hs6).symm.trans h
      refine V_tin (tgt := 66) (54) eX5_tellPerson_12 (by rw [hs6]; decide) (by rw [hs6]; decide) (by rw [hs6]; decide) rfl ?_
      refine V_aload_n eX5_tellPerson_66 0 rfl ?_
      refine V_get (v := .ref (A 7)) eX5_tellPerson_67 inX5 3 rfl rfl 11 (Nat.le_of_ble_eq_true rfl) tw_71 rfl ?_
      refine V_iload_n eX5_tellPerson_70 1 rfl ?_
      obtain ⟨v7, hi7, ev7, h⟩ := ald_some h
      refine V_ialdv eX5_tellPerson_71 7 rfl hi7 ev7 ?_
      refine V_bipush (v := (10 : Int32)) eX5_tellPerson_72 rfl ?_
      refine V_iadd eX5_tellPerson_74 ?_
      obtain rfl := Option.some.inj h
      exact V_ret eX5_tellPerson_75 rfl ⟨rfl, rfl⟩
    replace h := (if_neg hs6).symm.trans h
    by_cases hs8 : p2 = (3 : Int32)
    · replace h := (if_pos hs8).symm.trans h
      refine V_tin (tgt := 76) (64) eX5_tellPerson_12 (by rw [hs8]; decide) (by rw [hs8]; decide) (by rw [hs8]; decide) rfl ?_
      refine V_aload_n eX5_tellPerson_76 0 rfl ?_
      refine V_get (v := .ref (A 8)) eX5_tellPerson_77 inX5 3 rfl rfl 12 (Nat.le_of_ble_eq_true rfl) tw_74 rfl ?_
      refine V_iload_n eX5_tellPerson_80 1 rfl ?_
      obtain ⟨v9, hi9, ev9, h⟩ := ald_some h
      refine V_ialdv eX5_tellPerson_81 8 rfl hi9 ev9 ?_
      refine V_bipush (v := (10 : Int32)) eX5_tellPerson_82 rfl ?_
      refine V_iadd eX5_tellPerson_84 ?_
      obtain rfl := Option.some.inj h
      exact V_ret eX5_tellPerson_85 rfl ⟨rfl, rfl⟩
    replace h := (if_neg hs8).symm.trans h
    by_cases hs10 : p2 = (4 : Int32)
    · replace h := (if_pos hs10).symm.trans h
      refine V_tin (tgt := 86) (74) eX5_tellPerson_12 (by rw [hs10]; decide) (by rw [hs10]; decide) (by rw [hs10]; decide) rfl ?_
      refine V_aload_n eX5_tellPerson_86 0 rfl ?_
      refine V_get (v := .ref (A 9)) eX5_tellPerson_87 inX5 3 rfl rfl 13 (Nat.le_of_ble_eq_true rfl) tw_77 rfl ?_
      refine V_iload_n eX5_tellPerson_90 1 rfl ?_
      obtain ⟨v11, hi11, ev11, h⟩ := ald_some h
      refine V_ialdv eX5_tellPerson_91 9 rfl hi11 ev11 ?_
      refine V_bipush (v := (10 : Int32)) eX5_tellPerson_92 rfl ?_
      refine V_iadd eX5_tellPerson_94 ?_
      obtain rfl := Option.some.inj h
      exact V_ret eX5_tellPerson_95 rfl ⟨rfl, rfl⟩
    replace h := (if_neg hs10).symm.trans h
    by_cases hs12 : p2 = (5 : Int32)
    · replace h := (if_pos hs12).symm.trans h
      refine V_tin (tgt := 96) (84) eX5_tellPerson_12 (by rw [hs12]; decide) (by rw [hs12]; decide) (by rw [hs12]; decide) rfl ?_
      refine V_aload_n eX5_tellPerson_96 0 rfl ?_
      refine V_get (v := .ref (A 10)) eX5_tellPerson_97 inX5 3 rfl rfl 14 (Nat.le_of_ble_eq_true rfl) tw_79 rfl ?_
      refine V_iload_n eX5_tellPerson_100 1 rfl ?_
      obtain ⟨v13, hi13, ev13, h⟩ := ald_some h
      refine V_ialdv eX5_tellPerson_101 10 rfl hi13 ev13 ?_
      obtain rfl := Option.some.inj h
      exact V_ret eX5_tellPerson_102 rfl ⟨rfl, rfl⟩
    replace h := (if_neg hs12).symm.trans h
    obtain ⟨hs14, h⟩ := swo_some h
    refine V_tout (tgt := 103) eX5_tellPerson_12 hs14 rfl ?_
    refine V_bipush (v := (-2 : Int32)) eX5_tellPerson_103 rfl ?_
    obtain rfl := Option.some.inj h
    exact V_ret eX5_tellPerson_105 rfl ⟨rfl, rfl⟩
  · replace h := (if_pos hb1).symm.trans h
    refine V_bipush (v := (-2 : Int32)) eX5_tellPerson_8 rfl ?_
    obtain rfl := Option.some.inj h
    exact V_ret eX5_tellPerson_10 rfl ⟨rfl, rfl⟩
theorem hdX6_told : yX6_told.cls ≠ "java/lang/invoke/MethodHandle" ∧ yX6_told.cls ≠ "java/lang/invoke/VarHandle" ∧ (parseMethodDescriptor yX6_told.desc).map (fun d => d.parameters.length) = some 1 := by decide +kernel
theorem eX6_told_0 : Dc cX6_told 0 (.iload_n 1) 1 1 := ⟨by decide +kernel, rfl⟩
theorem eX6_told_1 : Dc cX6_told 1 (.tableswitch 99 0 6 #[43, 51, 59, 67, 75, 83, 91]) 43 44 := ⟨by decide +kernel, rfl⟩
theorem eX6_told_44 : Dc cX6_told 44 (.aload_n 0) 1 45 := ⟨by decide +kernel, rfl⟩
theorem eX6_told_45 : Dc cX6_told 45 (.getfield 10) 3 48 := ⟨by decide +kernel, rfl⟩
theorem eX6_told_48 : Dc cX6_told 48 (.getfield 76) 3 51 := ⟨by decide +kernel, rfl⟩
theorem eX6_told_51 : Dc cX6_told 51 (.ireturn) 1 52 := ⟨by decide +kernel, rfl⟩
theorem eX6_told_52 : Dc cX6_told 52 (.aload_n 0) 1 53 := ⟨by decide +kernel, rfl⟩
theorem eX6_told_53 : Dc cX6_told 53 (.getfield 19) 3 56 := ⟨by decide +kernel, rfl⟩
theorem eX6_told_56 : Dc cX6_told 56 (.getfield 84) 3 59 := ⟨by decide +kernel, rfl⟩
theorem eX6_told_59 : Dc cX6_told 59 (.ireturn) 1 60 := ⟨by decide +kernel, rfl⟩
theorem eX6_told_60 : Dc cX6_told 60 (.aload_n 0) 1 61 := ⟨by decide +kernel, rfl⟩
theorem eX6_told_61 : Dc cX6_told 61 (.getfield 19) 3 64 := ⟨by decide +kernel, rfl⟩
theorem eX6_told_64 : Dc cX6_told 64 (.getfield 94) 3 67 := ⟨by decide +kernel, rfl⟩
theorem eX6_told_67 : Dc cX6_told 67 (.ireturn) 1 68 := ⟨by decide +kernel, rfl⟩
theorem eX6_told_68 : Dc cX6_told 68 (.aload_n 0) 1 69 := ⟨by decide +kernel, rfl⟩
theorem eX6_told_69 : Dc cX6_told 69 (.getfield 19) 3 72 := ⟨by decide +kernel, rfl⟩
theorem eX6_told_72 : Dc cX6_told 72 (.getfield 100) 3 75 := ⟨by decide +kernel, rfl⟩
theorem eX6_told_75 : Dc cX6_told 75 (.ireturn) 1 76 := ⟨by decide +kernel, rfl⟩
theorem eX6_told_76 : Dc cX6_told 76 (.aload_n 0) 1 77 := ⟨by decide +kernel, rfl⟩
theorem eX6_told_77 : Dc cX6_told 77 (.getfield 19) 3 80 := ⟨by decide +kernel, rfl⟩
theorem eX6_told_80 : Dc cX6_told 80 (.getfield 130) 3 83 := ⟨by decide +kernel, rfl⟩
theorem eX6_told_83 : Dc cX6_told 83 (.ireturn) 1 84 := ⟨by decide +kernel, rfl⟩
theorem eX6_told_84 : Dc cX6_told 84 (.aload_n 0) 1 85 := ⟨by decide +kernel, rfl⟩
theorem eX6_told_85 : Dc cX6_told 85 (.getfield 19) 3 88 := ⟨by decide +kernel, rfl⟩
theorem eX6_told_88 : Dc cX6_told 88 (.getfield 133) 3 91 := ⟨by decide +kernel, rfl⟩
theorem eX6_told_91 : Dc cX6_told 91 (.ireturn) 1 92 := ⟨by decide +kernel, rfl⟩
theorem eX6_told_92 : Dc cX6_told 92 (.aload_n 0) 1 93 := ⟨by decide +kernel, rfl⟩
theorem eX6_told_93 : Dc cX6_told 93 (.getfield 19) 3 96 := ⟨by decide +kernel, rfl⟩
theorem eX6_told_96 : Dc cX6_told 96 (.getfield 207) 3 99 := ⟨by decide +kernel, rfl⟩
theorem eX6_told_99 : Dc cX6_told 99 (.ireturn) 1 100 := ⟨by decide +kernel, rfl⟩
theorem eX6_told_100 : Dc cX6_told 100 (.iload_n 1) 1 101 := ⟨by decide +kernel, rfl⟩
theorem eX6_told_101 : Dc cX6_told 101 (.bipush 10) 2 103 := ⟨by decide +kernel, rfl⟩
theorem eX6_told_103 : Dc cX6_told 103 (.bipush 9) 2 105 := ⟨by decide +kernel, rfl⟩
theorem eX6_told_105 : Dc cX6_told 105 (.aload_n 0) 1 106 := ⟨by decide +kernel, rfl⟩
theorem eX6_told_106 : Dc cX6_told 106 (.getfield 19) 3 109 := ⟨by decide +kernel, rfl⟩
theorem eX6_told_109 : Dc cX6_told 109 (.getfield 84) 3 112 := ⟨by decide +kernel, rfl⟩
theorem eX6_told_112 : Dc cX6_told 112 (.iadd) 1 113 := ⟨by decide +kernel, rfl⟩
theorem eX6_told_113 : Dc cX6_told 113 (.invokestatic 68) 3 116 := ⟨by decide +kernel, rfl⟩
theorem eX6_told_116 : Dc cX6_told 116 (.ifCond .eq 16) 3 119 := ⟨by decide +kernel, rfl⟩
theorem eX6_told_119 : Dc cX6_told 119 (.aload_n 0) 1 120 := ⟨by decide +kernel, rfl⟩
theorem eX6_told_120 : Dc cX6_told 120 (.getfield 19) 3 123 := ⟨by decide +kernel, rfl⟩
theorem eX6_told_123 : Dc cX6_told 123 (.getfield 275) 3 126 := ⟨by decide +kernel, rfl⟩
theorem eX6_told_126 : Dc cX6_told 126 (.iload_n 1) 1 127 := ⟨by decide +kernel, rfl⟩
theorem eX6_told_127 : Dc cX6_told 127 (.bipush 10) 2 129 := ⟨by decide +kernel, rfl⟩
theorem eX6_told_129 : Dc cX6_told 129 (.isub) 1 130 := ⟨by decide +kernel, rfl⟩
theorem eX6_told_130 : Dc cX6_told 130 (.iaload) 1 131 := ⟨by decide +kernel, rfl⟩
theorem eX6_told_131 : Dc cX6_told 131 (.ireturn) 1 132 := ⟨by decide +kernel, rfl⟩
theorem eX6_told_132 : Dc cX6_told 132 (.iload_n 1) 1 133 := ⟨by decide +kernel, rfl⟩
theorem eX6_told_133 : Dc cX6_told 133 (.bipush 20) 2 135 := ⟨by decide +kernel, rfl⟩
theorem eX6_told_135 : Dc cX6_told 135 (.if_icmp .ge 8) 3 138 := ⟨by decide +kernel, rfl⟩
theorem eX6_told_138 : Dc cX6_told 138 (.bipush (-2)) 2 140 := ⟨by decide +kernel, rfl⟩
theorem eX6_told_140 : Dc cX6_told 140 (.goto 20) 3 143 := ⟨by decide +kernel, rfl⟩
theorem eX6_told_143 : Dc cX6_told 143 (.aload_n 0) 1 144 := ⟨by decide +kernel, rfl⟩
theorem eX6_told_144 : Dc cX6_told 144 (.getfield 19) 3 147 := ⟨by decide +kernel, rfl⟩
theorem eX6_told_147 : Dc cX6_told 147 (.iload_n 1) 1 148 := ⟨by decide +kernel, rfl⟩
theorem eX6_told_148 : Dc cX6_told 148 (.bipush 10) 2 150 := ⟨by decide +kernel, rfl⟩
theorem eX6_told_150 : Dc cX6_told 150 (.idiv) 1 151 := ⟨by decide +kernel, rfl⟩
theorem eX6_told_151 : Dc cX6_told 151 (.iconst 2) 1 152 := ⟨by decide +kernel, rfl⟩
theorem eX6_told_152 : Dc cX6_told 152 (.isub) 1 153 := ⟨by decide +kernel, rfl⟩
theorem eX6_told_153 : Dc cX6_told 153 (.iload_n 1) 1 154 := ⟨by decide +kernel, rfl⟩
theorem eX6_told_154 : Dc cX6_told 154 (.bipush 10) 2 156 := ⟨by decide +kernel, rfl⟩
theorem eX6_told_156 : Dc cX6_told 156 (.irem) 1 157 := ⟨by decide +kernel, rfl⟩
theorem eX6_told_157 : Dc cX6_told 157 (.invokevirtual 278) 3 160 := ⟨by decide +kernel, rfl⟩
theorem eX6_told_160 : Dc cX6_told 160 (.ireturn) 1 161 := ⟨by decide +kernel, rfl⟩
def fX6_told (c : SS) (p1 : Int32) : Option (Int32) := if p1 = (0 : Int32) then some (c.1 0) else (if p1 = (1 : Int32) then some (c.1 1) else (if p1 = (2 : Int32) then some (c.1 2) else (if p1 = (3 : Int32) then some (c.1 5) else (if p1 = (4 : Int32) then some (c.1 3) else (if p1 = (5 : Int32) then some (c.1 4) else (if p1 = (6 : Int32) then some (c.1 6) else (swo p1 (0 : Int32) (6 : Int32) (if (fX6_within p1 (10 : Int32) ((9 : Int32) + (c.1 1))) = (0 : Int32) then if (20 : Int32) ≤ p1 then Option.bind (fX5_tellPerson c ((p1 / (10 : Int32)) - (2 : Int32)) (irm p1 (10 : Int32))) (fun q11 => some q11) else some (-2 : Int32) else ald 6 (c.2 1) (p1 - (10 : Int32)) (fun v12 => some v12)))))))))
set_option maxRecDepth 20000 in
theorem ctX6_told (l : Launch) (G : tg_G) (A : Nat → Nat) (c : SS) (p1 : Int32) {z : Int32} (h : fX6_told c p1 = some z) : Mt l G yX6_told cX6_told 2 (some .int) (tg_R 3 65) [.ref (A 0), .int p1] (wC G A c) (fun v w1 => v = some (.int z) ∧ w1 = wC G A c) := by
  refine Mt_of2 (own := "TramGod") (nm := "told") rfl rfl rfl (Nat.le_of_ble_eq_true rfl) (lv := [(0, .ref (A 0)), (1, .int p1)]) rfl ?_
  unfold fX6_told at h
  refine V_iload_n eX6_told_0 1 rfl ?_
  by_cases hs1 : p1 = (0 : Int32)
  · replace h := (if_pos hs1).symm.trans h
    refine V_tin (tgt := 44) (43) eX6_told_1 (by rw [hs1]; decide) (by rw [hs1]; decide) (by rw [hs1]; decide) rfl ?_
    refine V_aload_n eX6_told_44 0 rfl ?_
    refine V_get (v := .ref (A 1)) eX6_told_45 inX6 0 rfl rfl 0 (Nat.le_of_ble_eq_true rfl) tw_207 rfl ?_
    refine V_get (v := .int (c.1 0)) eX6_told_48 inX1 1 rfl rfl 1 (Nat.le_of_ble_eq_true rfl) tw_28 rfl ?_
    obtain rfl := Option.some.inj h
    exact V_ret eX6_told_51 rfl ⟨rfl, rfl⟩
  replace h := (if_neg hs1).symm.trans h
  by_cases hs2 : p1 = (1 : Int32)
  · replace h := (if_pos hs2).symm.trans h
    refine V_tin (tgt := 52) (51) eX6_told_1 (by rw [hs2]; decide) (by rw [hs2]; decide) (by rw [hs2]; decide) rfl ?_
    refine V_aload_n eX6_told_52 0 rfl ?_
    refine V_get (v := .ref (A 3)) eX6_told_53 inX6 0 rfl rfl 1 (Nat.le_of_ble_eq_true rfl) tw_208 rfl ?_
    refine V_get (v := .int (c.1 1)) eX6_told_56 inX5 3 rfl rfl 0 (Nat.le_of_ble_eq_true rfl) tw_44 rfl ?_
    obtain rfl := Option.some.inj h
    exact V_ret eX6_told_59 rfl ⟨rfl, rfl⟩
  replace h := (if_neg hs2).symm.trans h
  by_cases hs3 : p1 = (2 : Int32)
  · replace h := (if_pos hs3).symm.trans h
    refine V_tin (tgt := 60) (59) eX6_told_1 (by rw [hs3]; decide) (by rw [hs3]; decide) (by rw [hs3]; decide) rfl ?_
    refine V_aload_n eX6_told_60 0 rfl ?_
    refine V_get (v := .ref (A 3)) eX6_told_61 inX6 0 rfl rfl 1 (Nat.le_of_ble_eq_true rfl) tw_208 rfl ?_
    refine V_get (v := .int (c.1 2)) eX6_told_64 inX5 3 rfl rfl 1 (Nat.le_of_ble_eq_true rfl) tw_47 rfl ?_
    obtain rfl := Option.some.inj h
    exact V_ret eX6_told_67 rfl ⟨rfl, rfl⟩
  replace h := (if_neg hs3).symm.trans h
  by_cases hs4 : p1 = (3 : Int32)
  · replace h := (if_pos hs4).symm.trans h
    refine V_tin (tgt := 68) (67) eX6_told_1 (by rw [hs4]; decide) (by rw [hs4]; decide) (by rw [hs4]; decide) rfl ?_
    refine V_aload_n eX6_told_68 0 rfl ?_
    refine V_get (v := .ref (A 3)) eX6_told_69 inX6 0 rfl rfl 1 (Nat.le_of_ble_eq_true rfl) tw_208 rfl ?_
    refine V_get (v := .int (c.1 5)) eX6_told_72 inX5 3 rfl rfl 4 (Nat.le_of_ble_eq_true rfl) tw_55 rfl ?_
    obtain rfl := Option.some.inj h
    exact V_ret eX6_told_75 rfl ⟨rfl, rfl⟩
  replace h := (if_neg hs4).symm.trans h
  by_cases hs5 : p1 = (4 : Int32)
  · replace h := (if_pos hs5).symm.trans h
    refine V_tin (tgt := 76) (75) eX6_told_1 (by rw [hs5]; decide) (by rw [hs5]; decide) (by rw [hs5]; decide) rfl ?_
    refine V_aload_n eX6_told_76 0 rfl ?_
    refine V_get (v := .ref (A 3)) eX6_told_77 inX6 0 rfl rfl 1 (Nat.le_of_ble_eq_true rfl) tw_208 rfl ?_
    refine V_get (v := .int (c.1 3)) eX6_told_80 inX5 3 rfl rfl 2 (Nat.le_of_ble_eq_true rfl) tw_51 rfl ?_
    obtain rfl := Option.some.inj h
    exact V_ret eX6_told_83 rfl ⟨rfl, rfl⟩
  replace h := (if_neg hs5).symm.trans h
  by_cases hs6 : p1 = (5 : Int32)
  · replace h := (if_pos hs6).symm.trans h
    refine V_tin (tgt := 84) (83) eX6_told_1 (by rw [hs6]; decide) (by rw [hs6]; decide) (by rw [hs6]; decide) rfl ?_
    refine V_aload_n eX6_told_84 0 rfl ?_
    refine V_get (v := .ref (A 3)) eX6_told_85 inX6 0 rfl rfl 1 (Nat.le_of_ble_eq_true rfl) tw_208 rfl ?_
    refine V_get (v := .int (c.1 4)) eX6_told_88 inX5 3 rfl rfl 3 (Nat.le_of_ble_eq_true rfl) tw_53 rfl ?_
    obtain rfl := Option.some.inj h
    exact V_ret eX6_told_91 rfl ⟨rfl, rfl⟩
  replace h := (if_neg hs6).symm.trans h
  by_cases hs7 : p1 = (6 : Int32)
  · replace h := (if_pos hs7).symm.trans h
    refine V_tin (tgt := 92) (91) eX6_told_1 (by rw [hs7]; decide) (by rw [hs7]; decide) (by rw [hs7]; decide) rfl ?_
    refine V_aload_n eX6_told_92 0 rfl ?_
    refine V_get (v := .ref (A 3)) eX6_told_93 inX6 0 rfl rfl 1 (Nat.le_of_ble_eq_true rfl) tw_208 rfl ?_
    refine V_get (v := .int (c.1 6)) eX6_told_96 inX5 3 rfl rfl 5 (Nat.le_of_ble_eq_true rfl) tw_57 rfl ?_
    obtain rfl := Option.some.inj h
    exact V_ret eX6_told_99 rfl ⟨rfl, rfl⟩
  replace h := (if_neg hs7).symm.trans h
  obtain ⟨hs8, h⟩ := swo_some h
  refine V_tout (tgt := 100) eX6_told_1 hs8 rfl ?_
  refine V_iload_n eX6_told_100 1 rfl ?_
  refine V_bipush (v := (10 : Int32)) eX6_told_101 rfl ?_
  refine V_bipush (v := (9 : Int32)) eX6_told_103 rfl ?_
  refine V_aload_n eX6_told_105 0 rfl ?_
  refine V_get (v := .ref (A 3)) eX6_told_106 inX6 0 rfl rfl 1 (Nat.le_of_ble_eq_true rfl) tw_208 rfl ?_
  refine V_get (v := .int (c.1 1)) eX6_told_109 inX5 3 rfl rfl 0 (Nat.le_of_ble_eq_true rfl) tw_44 rfl ?_
  refine V_iadd eX6_told_112 ?_
  refine V_callSi (rest := []) eX6_told_113 (ctX6_within l G _ p1 (10 : Int32) ((9 : Int32) + (c.1 1)) rfl) tc_241 tw_239 tw_1 tw_240 hdX6_within rfl ⟨Nat.le_of_ble_eq_true rfl, Nat.le_of_ble_eq_true rfl⟩ rfl (Nat.le_of_ble_eq_true rfl) ⟨Nat.zero_le _, Nat.zero_le _⟩ ?_
  refine V_if_eq (tgt := 132) eX6_told_116 rfl (fun hb9 => ?_) (fun hb9 => ?_)
  · replace h := (if_pos hb9).symm.trans h
    refine V_iload_n eX6_told_132 1 rfl ?_
    refine V_bipush (v := (20 : Int32)) eX6_told_133 rfl ?_
    refine V_icmp_ge (tgt := 143) eX6_told_135 rfl (fun hb10 => ?_) (fun hb10 => ?_)
    · replace h := (if_pos hb10).symm.trans h
      refine V_aload_n eX6_told_143 0 rfl ?_
      refine V_get (v := .ref (A 3)) eX6_told_144 inX6 0 rfl rfl 1 (Nat.le_of_ble_eq_true rfl) tw_208 rfl ?_
      refine V_iload_n eX6_told_147 1 rfl ?_
      refine V_bipush (v := (10 : Int32)) eX6_told_148 rfl ?_
      refine V_idiv eX6_told_150 (by decide) ?_
      refine V_iconst (v := (2 : Int32)) eX6_told_151 rfl ?_
      refine V_isub eX6_told_152 ?_
      refine V_iload_n eX6_told_153 1 rfl ?_
      refine V_bipush (v := (10 : Int32)) eX6_told_154 rfl ?_
      refine V_irem eX6_told_156 (by decide) ?_
      obtain ⟨q11, hc11, h⟩ := Option.bind_eq_some_iff.mp h
      refine V_callVi (rest := []) eX6_told_157 (ctX5_tellPerson l G A c ((p1 / (10 : Int32)) - (2 : Int32)) (irm p1 (10 : Int32)) hc11) tc_637 tw_634 tw_3 tw_635 tw_636 3 rfl rfl hdX5_tellPerson rfl ⟨Nat.le_of_ble_eq_true rfl, Nat.le_of_ble_eq_true rfl⟩ rfl (Nat.le_of_ble_eq_true rfl) ⟨Nat.zero_le _, Nat.zero_le _⟩ ?_
      obtain rfl := Option.some.inj h
      exact V_ret eX6_told_160 rfl ⟨rfl, rfl⟩
    · replace h := (if_neg hb10).symm.trans h
      refine V_bipush (v := (-2 : Int32)) eX6_told_138 rfl ?_
      refine V_goto (tgt := 160) eX6_told_140 rfl ?_
      obtain rfl := Option.some.inj h
      exact V_ret eX6_told_160 rfl ⟨rfl, rfl⟩
  · replace h := (if_neg hb9).symm.trans h
    refine V_aload_n eX6_told_119 0 rfl ?_
    refine V_get (v := .ref (A 3)) eX6_told_120 inX6 0 rfl rfl 1 (Nat.le_of_ble_eq_true rfl) tw_208 rfl ?_
    refine V_get (v := .ref (A 4)) eX6_told_123 inX5 3 rfl rfl 8 (Nat.le_of_ble_eq_true rfl) tw_63 rfl ?_
    refine V_iload_n eX6_told_126 1 rfl ?_
    refine V_bipush (v := (10 : Int32)) eX6_told_127 rfl ?_
    refine V_isub eX6_told_129 ?_
    obtain ⟨v12, hi12, ev12, h⟩ := ald_some h
    refine V_ialdv eX6_told_130 4 rfl hi12 ev12 ?_
    obtain rfl := Option.some.inj h
    exact V_ret eX6_told_131 rfl ⟨rfl, rfl⟩
