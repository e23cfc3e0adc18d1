theorem hdX7_in : yX7_in.cls ≠ "java/lang/invoke/MethodHandle" ∧ yX7_in.cls ≠ "java/lang/invoke/VarHandle" ∧ (parseMethodDescriptor yX7_in.desc).map (fun d => d.parameters.length) = some 3 := by decide +kernel
theorem eX7_in_0 : Dc cX7_in 0 (.lload_n 0) 1 1 := ⟨by decide +kernel, rfl⟩
theorem eX7_in_1 : Dc cX7_in 1 (.lload_n 2) 1 2 := ⟨by decide +kernel, rfl⟩
theorem eX7_in_2 : Dc cX7_in 2 (.lcmp) 1 3 := ⟨by decide +kernel, rfl⟩
theorem eX7_in_3 : Dc cX7_in 3 (.ifCond .lt 14) 3 6 := ⟨by decide +kernel, rfl⟩
theorem eX7_in_6 : Dc cX7_in 6 (.lload_n 0) 1 7 := ⟨by decide +kernel, rfl⟩
theorem eX7_in_7 : Dc cX7_in 7 (.lload 4) 2 9 := ⟨by decide +kernel, rfl⟩
theorem eX7_in_9 : Dc cX7_in 9 (.lcmp) 1 10 := ⟨by decide +kernel, rfl⟩
theorem eX7_in_10 : Dc cX7_in 10 (.ifCond .gt 7) 3 13 := ⟨by decide +kernel, rfl⟩
theorem eX7_in_13 : Dc cX7_in 13 (.iconst 1) 1 14 := ⟨by decide +kernel, rfl⟩
theorem eX7_in_14 : Dc cX7_in 14 (.goto 4) 3 17 := ⟨by decide +kernel, rfl⟩
theorem eX7_in_17 : Dc cX7_in 17 (.iconst 0) 1 18 := ⟨by decide +kernel, rfl⟩
theorem eX7_in_18 : Dc cX7_in 18 (.ireturn) 1 19 := ⟨by decide +kernel, rfl⟩
def fX7_in (p0 : Int64) (p2 : Int64) (p4 : Int64) : Int32 := if (lg_cmp p0 p2) < (0 : Int32) then (0 : Int32) else if (0 : Int32) < (lg_cmp p0 p4) then (0 : Int32) else (1 : Int32)
set_option maxRecDepth 20000 in
theorem ctX7_in (l : Launch) (G : tg_G) (w : va_W) (p0 : Int64) (p2 : Int64) (p4 : Int64) {z : Int32} (h : fX7_in p0 p2 p4 = z) : Mt l G yX7_in cX7_in 6 (some .boolean) (tg_R 0 0) [.long p0, .long p2, .long p4] (w) (fun v w1 => v = some (.int z) ∧ w1 = w) := by
  refine Mt_of2 (own := "TramGodModel") (nm := "in") rfl rfl rfl (Nat.le_of_ble_eq_true rfl) (lv := [(0, .long p0), (2, .long p2), (4, .long p4)]) rfl ?_
  unfold fX7_in at h
  refine V_lload_n eX7_in_0 0 rfl ?_
  refine V_lload_n eX7_in_1 1 rfl ?_
  refine V_lcmp eX7_in_2 ?_
  refine V_if_lt (tgt := 17) eX7_in_3 rfl (fun hb1 => ?_) (fun hb1 => ?_)
  · replace h := (if_pos hb1).symm.trans h
    refine V_iconst (v := (0 : Int32)) eX7_in_17 rfl ?_
    subst h
    exact V_zret eX7_in_18 rfl rfl ⟨rfl, rfl⟩
  · replace h := (if_neg hb1).symm.trans h
    refine V_lload_n eX7_in_6 0 rfl ?_
    refine V_lload eX7_in_7 2 rfl ?_
    refine V_lcmp eX7_in_9 ?_
    refine V_if_gt (tgt := 17) eX7_in_10 rfl (fun hb2 => ?_) (fun hb2 => ?_)
    · replace h := (if_pos hb2).symm.trans h
      refine V_iconst (v := (0 : Int32)) eX7_in_17 rfl ?_
      subst h
      exact V_zret eX7_in_18 rfl rfl ⟨rfl, rfl⟩
    · replace h := (if_neg hb2).symm.trans h
      refine V_iconst (v := (1 : Int32)) eX7_in_13 rfl ?_
      refine V_goto (tgt := 18) eX7_in_14 rfl ?_
      subst h
      exact V_zret eX7_in_18 rfl rfl ⟨rfl, rfl⟩
theorem bzX7_in (p0 : Int64) (p2 : Int64) (p4 : Int64) : narrow .boolean (.int (fX7_in p0 p2 p4)) = .int (fX7_in p0 p2 p4) := by
  unfold fX7_in
  repeat' split
  all_goals first | rfl
theorem hdX7_say : yX7_say.cls ≠ "java/lang/invoke/MethodHandle" ∧ yX7_say.cls ≠ "java/lang/invoke/VarHandle" ∧ (parseMethodDescriptor yX7_say.desc).map (fun d => d.parameters.length) = some 1 := by decide +kernel
theorem eX7_say_0 : Dc cX7_say 0 (.iload_n 1) 1 1 := ⟨by decide +kernel, rfl⟩
theorem eX7_say_1 : Dc cX7_say 1 (.i2l) 1 2 := ⟨by decide +kernel, rfl⟩
theorem eX7_say_2 : Dc cX7_say 2 (.ldc2_w 91) 3 5 := ⟨by decide +kernel, rfl⟩
theorem eX7_say_5 : Dc cX7_say 5 (.ldc2_w 93) 3 8 := ⟨by decide +kernel, rfl⟩
theorem eX7_say_8 : Dc cX7_say 8 (.invokestatic 79) 3 11 := ⟨by decide +kernel, rfl⟩
theorem eX7_say_11 : Dc cX7_say 11 (.ifCond .ne 6) 3 14 := ⟨by decide +kernel, rfl⟩
theorem eX7_say_14 : Dc cX7_say 14 (.bipush (-2)) 2 16 := ⟨by decide +kernel, rfl⟩
theorem eX7_say_16 : Dc cX7_say 16 (.ireturn) 1 17 := ⟨by decide +kernel, rfl⟩
theorem eX7_say_17 : Dc cX7_say 17 (.aload_n 0) 1 18 := ⟨by decide +kernel, rfl⟩
theorem eX7_say_18 : Dc cX7_say 18 (.getfield 95) 3 21 := ⟨by decide +kernel, rfl⟩
theorem eX7_say_21 : Dc cX7_say 21 (.bipush 20) 2 23 := ⟨by decide +kernel, rfl⟩
theorem eX7_say_23 : Dc cX7_say 23 (.if_icmp .ne 6) 3 26 := ⟨by decide +kernel, rfl⟩
theorem eX7_say_26 : Dc cX7_say 26 (.bipush (-4)) 2 28 := ⟨by decide +kernel, rfl⟩
theorem eX7_say_28 : Dc cX7_say 28 (.ireturn) 1 29 := ⟨by decide +kernel, rfl⟩
theorem eX7_say_29 : Dc cX7_say 29 (.aload_n 0) 1 30 := ⟨by decide +kernel, rfl⟩
theorem eX7_say_30 : Dc cX7_say 30 (.getfield 37) 3 33 := ⟨by decide +kernel, rfl⟩
theorem eX7_say_33 : Dc cX7_say 33 (.aload_n 0) 1 34 := ⟨by decide +kernel, rfl⟩
theorem eX7_say_34 : Dc cX7_say 34 (.getfield 95) 3 37 := ⟨by decide +kernel, rfl⟩
theorem eX7_say_37 : Dc cX7_say 37 (.iload_n 1) 1 38 := ⟨by decide +kernel, rfl⟩
theorem eX7_say_38 : Dc cX7_say 38 (.iastore) 1 39 := ⟨by decide +kernel, rfl⟩
theorem eX7_say_39 : Dc cX7_say 39 (.aload_n 0) 1 40 := ⟨by decide +kernel, rfl⟩
theorem eX7_say_40 : Dc cX7_say 40 (.dup) 1 41 := ⟨by decide +kernel, rfl⟩
theorem eX7_say_41 : Dc cX7_say 41 (.getfield 95) 3 44 := ⟨by decide +kernel, rfl⟩
theorem eX7_say_44 : Dc cX7_say 44 (.iconst 1) 1 45 := ⟨by decide +kernel, rfl⟩
theorem eX7_say_45 : Dc cX7_say 45 (.iadd) 1 46 := ⟨by decide +kernel, rfl⟩
theorem eX7_say_46 : Dc cX7_say 46 (.putfield 95) 3 49 := ⟨by decide +kernel, rfl⟩
theorem eX7_say_49 : Dc cX7_say 49 (.aload_n 0) 1 50 := ⟨by decide +kernel, rfl⟩
theorem eX7_say_50 : Dc cX7_say 50 (.getfield 95) 3 53 := ⟨by decide +kernel, rfl⟩
theorem eX7_say_53 : Dc cX7_say 53 (.ireturn) 1 54 := ⟨by decide +kernel, rfl⟩
def fX7_say (c : SS) (p1 : Int32) : Option (Int32 × SS) := if (fX7_in (p1).toInt64 (33 : Int64) (126 : Int64)) = (0 : Int32) then some ((-2 : Int32), c) else if (c.1 16) = (20 : Int32) then some ((-4 : Int32), c) else ckb 20 (c.1 16) (some (((c.1 16) + (1 : Int32)), (sF (sA c 15 ((c.1 16)).toNatClampNeg p1) 16 ((c.1 16) + (1 : Int32)))))
set_option maxRecDepth 20000 in
theorem ctX7_say (l : Launch) (G : tg_G) (A : Nat → Nat) (c : SS) (p1 : Int32) {z : Int32 × SS} (h : fX7_say c p1 = some z) : Mt l G yX7_say cX7_say 2 (some .int) (tg_R 1 25) [.ref (A 0), .int p1] (wM G A c) (fun v w1 => v = some (.int z.1) ∧ w1 = wM G A z.2) := by
  refine Mt_of2 (own := "TramGodModel") (nm := "say") rfl rfl rfl (Nat.le_of_ble_eq_true rfl) (lv := [(0, .ref (A 0)), (1, .int p1)]) rfl ?_
  unfold fX7_say at h
  refine V_iload_n eX7_say_0 1 rfl ?_
  refine V_i2l eX7_say_1 ?_
  refine V_ldc2 eX7_say_2 tw_744 ?_
  refine V_ldc2 eX7_say_5 tw_745 ?_
  refine V_callSi (rest := []) eX7_say_8 (ctX7_in l G _ (p1).toInt64 (33 : Int64) (126 : Int64) rfl) tc_748 tw_746 tw_8 tw_747 hdX7_in rfl ⟨Nat.le_of_ble_eq_true rfl, Nat.le_of_ble_eq_true rfl⟩ rfl (Nat.le_of_ble_eq_true rfl) ⟨Nat.zero_le _, Nat.zero_le _⟩ ?_
  refine V_if_ne (tgt := 17) eX7_say_11 rfl (fun hb1 => ?_) (fun hb1 => ?_)
  · replace h := (if_neg hb1).symm.trans h
    refine V_aload_n eX7_say_17 0 rfl ?_
    refine V_get (v := .int (c.1 16)) eX7_say_18 inX7 0 rfl rfl 16 (Nat.le_of_ble_eq_true rfl) tw_661 rfl ?_
    refine V_bipush (v := (20 : Int32)) eX7_say_21 rfl ?_
    refine V_icmp_ne (tgt := 29) eX7_say_23 rfl (fun hb2 => ?_) (fun hb2 => ?_)
    · replace h := (if_neg hb2).symm.trans h
      refine V_aload_n eX7_say_29 0 rfl ?_
      refine V_get (v := .ref (A 10)) eX7_say_30 inX7 0 rfl rfl 15 (Nat.le_of_ble_eq_true rfl) tw_660 rfl ?_
      refine V_aload_n eX7_say_33 0 rfl ?_
      refine V_get (v := .int (c.1 16)) eX7_say_34 inX7 0 rfl rfl 16 (Nat.le_of_ble_eq_true rfl) tw_661 rfl ?_
      refine V_iload_n eX7_say_37 1 rfl ?_
      obtain ⟨hi3, h⟩ := ckb_some h
      refine V_iast (w' := wM G A (sA c 15 ((c.1 16)).toNatClampNeg p1)) eX7_say_38 10 rfl hi3 rfl ?_
      refine V_aload_n eX7_say_39 0 rfl ?_
      refine V_dup eX7_say_40 rfl ?_
      refine V_get (v := .int (c.1 16)) eX7_say_41 inX7 0 rfl rfl 16 (Nat.le_of_ble_eq_true rfl) tw_661 rfl ?_
      refine V_iconst (v := (1 : Int32)) eX7_say_44 rfl ?_
      refine V_iadd eX7_say_45 ?_
      refine V_put (w' := wM G A (sF (sA c 15 ((c.1 16)).toNatClampNeg p1) 16 ((c.1 16) + (1 : Int32)))) eX7_say_46 inX7 tyX7 tyX7_ok nmX7 0 rfl rfl 16 (Nat.le_of_ble_eq_true rfl) tw_661 rfl rfl rfl rfl (Nat.le_of_ble_eq_true rfl) rfl ?_
      refine V_aload_n eX7_say_49 0 rfl ?_
      refine V_get (v := .int ((c.1 16) + (1 : Int32))) eX7_say_50 inX7 0 rfl rfl 16 (Nat.le_of_ble_eq_true rfl) tw_661 rfl ?_
      obtain rfl := Option.some.inj h
      exact V_ret eX7_say_53 rfl ⟨rfl, rfl⟩
    · replace h := (if_pos hb2).symm.trans h
      refine V_bipush (v := (-4 : Int32)) eX7_say_26 rfl ?_
      obtain rfl := Option.some.inj h
      exact V_ret eX7_say_28 rfl ⟨rfl, rfl⟩
  · replace h := (if_pos hb1).symm.trans h
    refine V_bipush (v := (-2 : Int32)) eX7_say_14 rfl ?_
    obtain rfl := Option.some.inj h
    exact V_ret eX7_say_16 rfl ⟨rfl, rfl⟩
theorem hdX7_wipe : yX7_wipe.cls ≠ "java/lang/invoke/MethodHandle" ∧ yX7_wipe.cls ≠ "java/lang/invoke/VarHandle" ∧ (parseMethodDescriptor yX7_wipe.desc).map (fun d => d.parameters.length) = some 0 := by decide +kernel
theorem eX7_wipe_0 : Dc cX7_wipe 0 (.aload_n 0) 1 1 := ⟨by decide +kernel, rfl⟩
theorem eX7_wipe_1 : Dc cX7_wipe 1 (.getfield 95) 3 4 := ⟨by decide +kernel, rfl⟩
theorem eX7_wipe_4 : Dc cX7_wipe 4 (.istore_n 1) 1 5 := ⟨by decide +kernel, rfl⟩
theorem eX7_wipe_5 : Dc cX7_wipe 5 (.aload_n 0) 1 6 := ⟨by decide +kernel, rfl⟩
theorem eX7_wipe_6 : Dc cX7_wipe 6 (.iconst 0) 1 7 := ⟨by decide +kernel, rfl⟩
theorem eX7_wipe_7 : Dc cX7_wipe 7 (.putfield 95) 3 10 := ⟨by decide +kernel, rfl⟩
theorem eX7_wipe_10 : Dc cX7_wipe 10 (.iload_n 1) 1 11 := ⟨by decide +kernel, rfl⟩
theorem eX7_wipe_11 : Dc cX7_wipe 11 (.ireturn) 1 12 := ⟨by decide +kernel, rfl⟩
def fX7_wipe (c : SS)  : Int32 × SS := ((c.1 16), (sF c 16 (0 : Int32)))
set_option maxRecDepth 20000 in
theorem ctX7_wipe (l : Launch) (G : tg_G) (A : Nat → Nat) (c : SS)  {z : Int32 × SS} (h : fX7_wipe c  = z) : Mt l G yX7_wipe cX7_wipe 2 (some .int) (tg_R 0 0) [.ref (A 0)] (wM G A c) (fun v w1 => v = some (.int z.1) ∧ w1 = wM G A z.2) := by
  refine Mt_of2 (own := "TramGodModel") (nm := "wipe") rfl rfl rfl (Nat.le_of_ble_eq_true rfl) (lv := [(0, .ref (A 0))]) rfl ?_
  unfold fX7_wipe at h
  refine V_aload_n eX7_wipe_0 0 rfl ?_
  refine V_get (v := .int (c.1 16)) eX7_wipe_1 inX7 0 rfl rfl 16 (Nat.le_of_ble_eq_true rfl) tw_661 rfl ?_
  refine V_istore_n (lv' := [(1, .int (c.1 16)), (0, .ref (A 0))]) eX7_wipe_4 (Nat.le_of_ble_eq_true rfl) rfl ?_
  refine V_aload_n eX7_wipe_5 1 rfl ?_
  refine V_iconst (v := (0 : Int32)) eX7_wipe_6 rfl ?_
  refine V_put (w' := wM G A (sF c 16 (0 : Int32))) eX7_wipe_7 inX7 tyX7 tyX7_ok nmX7 0 rfl rfl 16 (Nat.le_of_ble_eq_true rfl) tw_661 rfl rfl rfl rfl (Nat.le_of_ble_eq_true rfl) rfl ?_
  refine V_iload_n eX7_wipe_10 0 rfl ?_
  subst h
  exact V_ret eX7_wipe_11 rfl ⟨rfl, rfl⟩
theorem hdX7_faultOfDigits : yX7_faultOfDigits.cls ≠ "java/lang/invoke/MethodHandle" ∧ yX7_faultOfDigits.cls ≠ "java/lang/invoke/VarHandle" ∧ (parseMethodDescriptor yX7_faultOfDigits.desc).map (fun d => d.parameters.length) = some 2 := by decide +kernel
theorem eX7_faultOfDigits_0 : Dc cX7_faultOfDigits 0 (.iconst 0) 1 1 := ⟨by decide +kernel, rfl⟩
theorem eX7_faultOfDigits_1 : Dc cX7_faultOfDigits 1 (.istore_n 3) 1 2 := ⟨by decide +kernel, rfl⟩
theorem eX7_faultOfDigits_2 : Dc cX7_faultOfDigits 2 (.iload_n 3) 1 3 := ⟨by decide +kernel, rfl⟩
theorem eX7_faultOfDigits_3 : Dc cX7_faultOfDigits 3 (.aload_n 0) 1 4 := ⟨by decide +kernel, rfl⟩
theorem eX7_faultOfDigits_4 : Dc cX7_faultOfDigits 4 (.getfield 95) 3 7 := ⟨by decide +kernel, rfl⟩
theorem eX7_faultOfDigits_7 : Dc cX7_faultOfDigits 7 (.if_icmp .ge 35) 3 10 := ⟨by decide +kernel, rfl⟩
theorem eX7_faultOfDigits_10 : Dc cX7_faultOfDigits 10 (.iload_n 3) 1 11 := ⟨by decide +kernel, rfl⟩
theorem eX7_faultOfDigits_11 : Dc cX7_faultOfDigits 11 (.iload_n 1) 1 12 := ⟨by decide +kernel, rfl⟩
theorem eX7_faultOfDigits_12 : Dc cX7_faultOfDigits 12 (.if_icmp .eq 22) 3 15 := ⟨by decide +kernel, rfl⟩
theorem eX7_faultOfDigits_15 : Dc cX7_faultOfDigits 15 (.aload_n 0) 1 16 := ⟨by decide +kernel, rfl⟩
theorem eX7_faultOfDigits_16 : Dc cX7_faultOfDigits 16 (.getfield 37) 3 19 := ⟨by decide +kernel, rfl⟩
theorem eX7_faultOfDigits_19 : Dc cX7_faultOfDigits 19 (.iload_n 3) 1 20 := ⟨by decide +kernel, rfl⟩
theorem eX7_faultOfDigits_20 : Dc cX7_faultOfDigits 20 (.iaload) 1 21 := ⟨by decide +kernel, rfl⟩
theorem eX7_faultOfDigits_21 : Dc cX7_faultOfDigits 21 (.i2l) 1 22 := ⟨by decide +kernel, rfl⟩
theorem eX7_faultOfDigits_22 : Dc cX7_faultOfDigits 22 (.ldc2_w 98) 3 25 := ⟨by decide +kernel, rfl⟩
theorem eX7_faultOfDigits_25 : Dc cX7_faultOfDigits 25 (.ldc2_w 100) 3 28 := ⟨by decide +kernel, rfl⟩
theorem eX7_faultOfDigits_28 : Dc cX7_faultOfDigits 28 (.invokestatic 79) 3 31 := ⟨by decide +kernel, rfl⟩
theorem eX7_faultOfDigits_31 : Dc cX7_faultOfDigits 31 (.ifCond .ne 5) 3 34 := ⟨by decide +kernel, rfl⟩
theorem eX7_faultOfDigits_34 : Dc cX7_faultOfDigits 34 (.iload_n 3) 1 35 := ⟨by decide +kernel, rfl⟩
theorem eX7_faultOfDigits_35 : Dc cX7_faultOfDigits 35 (.ireturn) 1 36 := ⟨by decide +kernel, rfl⟩
theorem eX7_faultOfDigits_36 : Dc cX7_faultOfDigits 36 (.iinc 3 1) 3 39 := ⟨by decide +kernel, rfl⟩
theorem eX7_faultOfDigits_39 : Dc cX7_faultOfDigits 39 (.goto (-37)) 3 42 := ⟨by decide +kernel, rfl⟩
theorem eX7_faultOfDigits_42 : Dc cX7_faultOfDigits 42 (.aload_n 0) 1 43 := ⟨by decide +kernel, rfl⟩
theorem eX7_faultOfDigits_43 : Dc cX7_faultOfDigits 43 (.getfield 95) 3 46 := ⟨by decide +kernel, rfl⟩
theorem eX7_faultOfDigits_46 : Dc cX7_faultOfDigits 46 (.iload_n 2) 1 47 := ⟨by decide +kernel, rfl⟩
theorem eX7_faultOfDigits_47 : Dc cX7_faultOfDigits 47 (.if_icmp .ge 10) 3 50 := ⟨by decide +kernel, rfl⟩
theorem eX7_faultOfDigits_50 : Dc cX7_faultOfDigits 50 (.aload_n 0) 1 51 := ⟨by decide +kernel, rfl⟩
theorem eX7_faultOfDigits_51 : Dc cX7_faultOfDigits 51 (.getfield 95) 3 54 := ⟨by decide +kernel, rfl⟩
theorem eX7_faultOfDigits_54 : Dc cX7_faultOfDigits 54 (.goto 5) 3 57 := ⟨by decide +kernel, rfl⟩
theorem eX7_faultOfDigits_57 : Dc cX7_faultOfDigits 57 (.bipush (-6)) 2 59 := ⟨by decide +kernel, rfl⟩
theorem eX7_faultOfDigits_59 : Dc cX7_faultOfDigits 59 (.ireturn) 1 60 := ⟨by decide +kernel, rfl⟩
def fX7_faultOfDigits_L2 (k : Unit → Option (Int32)) (c : SS) (a1 : Int32) (a2 : Int32) : Nat → Int32 → Option (Int32)
  | 0, _ => none
  | n + 1, a3 => if (c.1 16) ≤ a3 then k () else if a3 = a1 then some a3 else ald 20 (c.2 15) a3 (fun v3 => if (fX7_in (v3).toInt64 (48 : Int64) (57 : Int64)) = (0 : Int32) then some a3 else fX7_faultOfDigits_L2 k c a1 a2 n (a3 + (1 : Int32)))
def fX7_faultOfDigits (c : SS) (p1 : Int32) (p2 : Int32) : Option (Int32) := fX7_faultOfDigits_L2 (fun (_ : Unit) => if p2 ≤ (c.1 16) then some (-6 : Int32) else some (c.1 16)) c p1 p2 fu (0 : Int32)
set_option maxRecDepth 20000 in
theorem ctX7_faultOfDigits_L2 (l : Launch) (G : tg_G) (A : Nat → Nat) (k : Unit → Option (Int32)) (c : SS) (a1 : Int32) (a2 : Int32) {z : Int32} (hk : k () = some z → V l G (tg_Zm G (fun v w1 => v = some (.int z) ∧ w1 = wM G A c) 0 0) tg_E0 (tg_R 1 25) "TramGodModel" "faultOfDigits" cX7_faultOfDigits 4 (some .int) 42 [(0, .ref (A 0)), (2, .int a2)] [] (wM G A c) 0 0) : ∀ (n : Nat) (a3 : Int32), fX7_faultOfDigits_L2 k c a1 a2 n a3 = some z → V l G (tg_Zm G (fun v w1 => v = some (.int z) ∧ w1 = wM G A c) 0 0) tg_E0 (tg_R 1 25) "TramGodModel" "faultOfDigits" cX7_faultOfDigits 4 (some .int) 2 [(0, .ref (A 0)), (1, .int a1), (2, .int a2), (3, .int a3)] [] (wM G A c) 0 0 := by
  intro n
  induction n with
  | zero => intro a3 h; exact absurd h (by simp [fX7_faultOfDigits_L2])
  | succ n ih =>
    intro a3 h
    unfold fX7_faultOfDigits_L2 at h
    refine V_iload_n eX7_faultOfDigits_2 3 rfl ?_
    refine V_aload_n eX7_faultOfDigits_3 0 rfl ?_
    refine V_get (v := .int (c.1 16)) eX7_faultOfDigits_4 inX7 0 rfl rfl 16 (Nat.le_of_ble_eq_true rfl) tw_661 rfl ?_
    refine V_icmp_ge (tgt := 42) eX7_faultOfDigits_7 rfl (fun hb1 => ?_) (fun hb1 => ?_)
    · replace h := (if_pos hb1).symm.trans h
      refine V_lv (lv' := [(0, .ref (A 0)), (2, .int a2)]) [0, 2] rfl ?_
      exact hk h
    · replace h := (if_neg hb1).symm.trans h
      refine V_iload_n eX7_faultOfDigits_10 3 rfl ?_
      refine V_iload_n eX7_faultOfDigits_11 1 rfl ?_
      refine V_icmp_eq (tgt := 34) eX7_faultOfDigits_12 rfl (fun hb2 => ?_) (fun hb2 => ?_)
      · replace h := (if_pos hb2).symm.trans h
        refine V_iload_n eX7_faultOfDigits_34 3 rfl ?_
        obtain rfl := Option.some.inj h
        exact V_ret eX7_faultOfDigits_35 rfl ⟨rfl, rfl⟩
      · replace h := (if_neg hb2).symm.trans h
        refine V_aload_n eX7_faultOfDigits_15 0 rfl ?_
        refine V_get (v := .ref (A 10)) eX7_faultOfDigits_16 inX7 0 rfl rfl 15 (Nat.le_of_ble_eq_true rfl) tw_660 rfl ?_
        refine V_iload_n eX7_faultOfDigits_19 3 rfl ?_
        obtain ⟨v3, hi3, ev3, h⟩ := ald_some h
        refine V_ialdv eX7_faultOfDigits_20 10 rfl hi3 ev3 ?_
        refine V_i2l eX7_faultOfDigits_21 ?_
        refine V_ldc2 eX7_faultOfDigits_22 tw_761 ?_
        refine V_ldc2 eX7_faultOfDigits_25 tw_762 ?_
        refine V_callSi (rest := []) eX7_faultOfDigits_28 (ctX7_in l G _ (v3).toInt64 (48 : Int64) (57 : Int64) rfl) tc_748 tw_746 tw_8 tw_747 hdX7_in rfl ⟨Nat.le_of_ble_eq_true rfl, Nat.le_of_ble_eq_true rfl⟩ rfl (Nat.le_of_ble_eq_true rfl) ⟨Nat.zero_le _, Nat.zero_le _⟩ ?_
        refine V_if_ne (tgt := 36) eX7_faultOfDigits_31 rfl (fun hb4 => ?_) (fun hb4 => ?_)
        · replace h := (if_neg hb4).symm.trans h
          refine V_iinc (v := (a3 + (1 : Int32))) (lv' := [(3, .int (a3 + (1 : Int32))), (0, .ref (A 0)), (1, .int a1), (2, .int a2)]) eX7_faultOfDigits_36 3 rfl rfl (Nat.le_of_ble_eq_true rfl) rfl ?_
          refine V_goto (tgt := 2) eX7_faultOfDigits_39 rfl ?_
          refine V_lv (lv' := [(0, .ref (A 0)), (1, .int a1), (2, .int a2), (3, .int (a3 + (1 : Int32)))]) [1, 2, 3, 0] rfl ?_
          exact ih (a3 + (1 : Int32)) h
        · replace h := (if_pos hb4).symm.trans h
          refine V_iload_n eX7_faultOfDigits_34 3 rfl ?_
          obtain rfl := Option.some.inj h
          exact V_ret eX7_faultOfDigits_35 rfl ⟨rfl, rfl⟩
set_option maxRecDepth 20000 in
theorem ctX7_faultOfDigits (l : Launch) (G : tg_G) (A : Nat → Nat) (c : SS) (p1 : Int32) (p2 : Int32) {z : Int32} (h : fX7_faultOfDigits c p1 p2 = some z) : Mt l G yX7_faultOfDigits cX7_faultOfDigits 4 (some .int) (tg_R 1 25) [.ref (A 0), .int p1, .int p2] (wM G A c) (fun v w1 => v = some (.int z) ∧ w1 = wM G A c) := by
  refine Mt_of2 (own := "TramGodModel") (nm := "faultOfDigits") rfl rfl rfl (Nat.le_of_ble_eq_true rfl) (lv := [(0, .ref (A 0)), (1, .int p1), (2, .int p2)]) rfl ?_
  unfold fX7_faultOfDigits at h
  refine V_iconst (v := (0 : Int32)) eX7_faultOfDigits_0 rfl ?_
  refine V_istore_n (lv' := [(3, .int (0 : Int32)), (0, .ref (A 0)), (1, .int p1), (2, .int p2)]) eX7_faultOfDigits_1 (Nat.le_of_ble_eq_true rfl) rfl ?_
  refine V_lv (lv' := [(0, .ref (A 0)), (1, .int p1), (2, .int p2), (3, .int (0 : Int32))]) [1, 2, 3, 0] rfl ?_
  refine ctX7_faultOfDigits_L2 l G A _ c p1 p2 ?_ fu (0 : Int32) h
  · intro h
    refine V_aload_n eX7_faultOfDigits_42 0 rfl ?_
    refine V_get (v := .int (c.1 16)) eX7_faultOfDigits_43 inX7 0 rfl rfl 16 (Nat.le_of_ble_eq_true rfl) tw_661 rfl ?_
    refine V_iload_n eX7_faultOfDigits_46 1 rfl ?_
    refine V_icmp_ge (tgt := 57) eX7_faultOfDigits_47 rfl (fun hb5 => ?_) (fun hb5 => ?_)
    · replace h := (if_pos hb5).symm.trans h
      refine V_bipush (v := (-6 : Int32)) eX7_faultOfDigits_57 rfl ?_
      obtain rfl := Option.some.inj h
      exact V_ret eX7_faultOfDigits_59 rfl ⟨rfl, rfl⟩
    · replace h := (if_neg hb5).symm.trans h
      refine V_aload_n eX7_faultOfDigits_50 0 rfl ?_
      refine V_get (v := .int (c.1 16)) eX7_faultOfDigits_51 inX7 0 rfl rfl 16 (Nat.le_of_ble_eq_true rfl) tw_661 rfl ?_
      refine V_goto (tgt := 59) eX7_faultOfDigits_54 rfl ?_
      obtain rfl := Option.some.inj h
      exact V_ret eX7_faultOfDigits_59 rfl ⟨rfl, rfl⟩
theorem hdX7_fault : yX7_fault.cls ≠ "java/lang/invoke/MethodHandle" ∧ yX7_fault.cls ≠ "java/lang/invoke/VarHandle" ∧ (parseMethodDescriptor yX7_fault.desc).map (fun d => d.parameters.length) = some 1 := by decide +kernel
theorem eX7_fault_0 : Dc cX7_fault 0 (.iload_n 1) 1 1 := ⟨by decide +kernel, rfl⟩
theorem eX7_fault_1 : Dc cX7_fault 1 (.ifCond .ne 13) 3 4 := ⟨by decide +kernel, rfl⟩
theorem eX7_fault_4 : Dc cX7_fault 4 (.aload_n 0) 1 5 := ⟨by decide +kernel, rfl⟩
theorem eX7_fault_5 : Dc cX7_fault 5 (.bipush 6) 2 7 := ⟨by decide +kernel, rfl⟩
theorem eX7_fault_7 : Dc cX7_fault 7 (.iconst 1) 1 8 := ⟨by decide +kernel, rfl⟩
theorem eX7_fault_8 : Dc cX7_fault 8 (.invokevirtual 102) 3 11 := ⟨by decide +kernel, rfl⟩
theorem eX7_fault_11 : Dc cX7_fault 11 (.goto 25) 3 14 := ⟨by decide +kernel, rfl⟩
theorem eX7_fault_14 : Dc cX7_fault 14 (.iload_n 1) 1 15 := ⟨by decide +kernel, rfl⟩
theorem eX7_fault_15 : Dc cX7_fault 15 (.iconst 1) 1 16 := ⟨by decide +kernel, rfl⟩
theorem eX7_fault_16 : Dc cX7_fault 16 (.if_icmp .ne 18) 3 19 := ⟨by decide +kernel, rfl⟩
theorem eX7_fault_19 : Dc cX7_fault 19 (.aload_n 0) 1 20 := ⟨by decide +kernel, rfl⟩
theorem eX7_fault_20 : Dc cX7_fault 20 (.aload_n 0) 1 21 := ⟨by decide +kernel, rfl⟩
theorem eX7_fault_21 : Dc cX7_fault 21 (.getfield 69) 3 24 := ⟨by decide +kernel, rfl⟩
theorem eX7_fault_24 : Dc cX7_fault 24 (.aload_n 0) 1 25 := ⟨by decide +kernel, rfl⟩
theorem eX7_fault_25 : Dc cX7_fault 25 (.getfield 69) 3 28 := ⟨by decide +kernel, rfl⟩
theorem eX7_fault_28 : Dc cX7_fault 28 (.invokevirtual 102) 3 31 := ⟨by decide +kernel, rfl⟩
theorem eX7_fault_31 : Dc cX7_fault 31 (.goto 5) 3 34 := ⟨by decide +kernel, rfl⟩
theorem eX7_fault_34 : Dc cX7_fault 34 (.bipush (-2)) 2 36 := ⟨by decide +kernel, rfl⟩
theorem eX7_fault_36 : Dc cX7_fault 36 (.ireturn) 1 37 := ⟨by decide +kernel, rfl⟩
def fX7_fault (c : SS) (p1 : Int32) : Option (Int32) := if p1 = (0 : Int32) then Option.bind (fX7_faultOfDigits c (6 : Int32) (1 : Int32)) (fun q4 => some q4) else if p1 = (1 : Int32) then Option.bind (fX7_faultOfDigits c (c.1 0) (c.1 0)) (fun q3 => some q3) else some (-2 : Int32)
set_option maxRecDepth 20000 in
theorem ctX7_fault (l : Launch) (G : tg_G) (A : Nat → Nat) (c : SS) (p1 : Int32) {z : Int32} (h : fX7_fault c p1 = some z) : Mt l G yX7_fault cX7_fault 2 (some .int) (tg_R 2 48) [.ref (A 0), .int p1] (wM G A c) (fun v w1 => v = some (.int z) ∧ w1 = wM G A c) := by
  refine Mt_of2 (own := "TramGodModel") (nm := "fault") rfl rfl rfl (Nat.le_of_ble_eq_true rfl) (lv := [(0, .ref (A 0)), (1, .int p1)]) rfl ?_
  unfold fX7_fault at h
  refine V_iload_n eX7_fault_0 1 rfl ?_
  refine V_if_ne (tgt := 14) eX7_fault_1 rfl (fun hb1 => ?_) (fun hb1 => ?_)
  · replace h := (if_neg hb1).symm.trans h
    refine V_iload_n eX7_fault_14 1 rfl ?_
    refine V_iconst (v := (1 : Int32)) eX7_fault_15 rfl ?_
    refine V_icmp_ne (tgt := 34) eX7_fault_16 rfl (fun hb2 => ?_) (fun hb2 => ?_)
    · replace h := (if_neg hb2).symm.trans h
      refine V_bipush (v := (-2 : Int32)) eX7_fault_34 rfl ?_
      obtain rfl := Option.some.inj h
      exact V_ret eX7_fault_36 rfl ⟨rfl, rfl⟩
    · replace h := (if_pos hb2).symm.trans h
      refine V_aload_n eX7_fault_19 0 rfl ?_
      refine V_aload_n eX7_fault_20 0 rfl ?_
      refine V_get (v := .int (c.1 0)) eX7_fault_21 inX7 0 rfl rfl 0 (Nat.le_of_ble_eq_true rfl) tw_645 rfl ?_
      refine V_aload_n eX7_fault_24 0 rfl ?_
      refine V_get (v := .int (c.1 0)) eX7_fault_25 inX7 0 rfl rfl 0 (Nat.le_of_ble_eq_true rfl) tw_645 rfl ?_
      obtain ⟨q3, hc3, h⟩ := Option.bind_eq_some_iff.mp h
      refine V_callVi (rest := []) eX7_fault_28 (ctX7_faultOfDigits l G A c (c.1 0) (c.1 0) hc3) tc_760 tw_757 tw_8 tw_759 ts_20 0 rfl rfl hdX7_faultOfDigits rfl ⟨Nat.le_of_ble_eq_true rfl, Nat.le_of_ble_eq_true rfl⟩ rfl (Nat.le_of_ble_eq_true rfl) ⟨Nat.zero_le _, Nat.zero_le _⟩ ?_
      refine V_goto (tgt := 36) eX7_fault_31 rfl ?_
      obtain rfl := Option.some.inj h
      exact V_ret eX7_fault_36 rfl ⟨rfl, rfl⟩
  · replace h := (if_pos hb1).symm.trans h
    refine V_aload_n eX7_fault_4 0 rfl ?_
    refine V_bipush (v := (6 : Int32)) eX7_fault_5 rfl ?_
    refine V_iconst (v := (1 : Int32)) eX7_fault_7 rfl ?_
    obtain ⟨q4, hc4, h⟩ := Option.bind_eq_some_iff.mp h
    refine V_callVi (rest := []) eX7_fault_8 (ctX7_faultOfDigits l G A c (6 : Int32) (1 : Int32) hc4) tc_760 tw_757 tw_8 tw_759 ts_20 0 rfl rfl hdX7_faultOfDigits rfl ⟨Nat.le_of_ble_eq_true rfl, Nat.le_of_ble_eq_true rfl⟩ rfl (Nat.le_of_ble_eq_true rfl) ⟨Nat.zero_le _, Nat.zero_le _⟩ ?_
    refine V_goto (tgt := 36) eX7_fault_11 rfl ?_
    obtain rfl := Option.some.inj h
    exact V_ret eX7_fault_36 rfl ⟨rfl, rfl⟩
theorem hdX7_line : yX7_line.cls ≠ "java/lang/invoke/MethodHandle" ∧ yX7_line.cls ≠ "java/lang/invoke/VarHandle" ∧ (parseMethodDescriptor yX7_line.desc).map (fun d => d.parameters.length) = some 0 := by decide +kernel
theorem eX7_line_0 : Dc cX7_line 0 (.aload_n 0) 1 1 := ⟨by decide +kernel, rfl⟩
theorem eX7_line_1 : Dc cX7_line 1 (.bipush 6) 2 3 := ⟨by decide +kernel, rfl⟩
theorem eX7_line_3 : Dc cX7_line 3 (.iconst 1) 1 4 := ⟨by decide +kernel, rfl⟩
theorem eX7_line_4 : Dc cX7_line 4 (.invokevirtual 102) 3 7 := ⟨by decide +kernel, rfl⟩
theorem eX7_line_7 : Dc cX7_line 7 (.ifCond .lt 6) 3 10 := ⟨by decide +kernel, rfl⟩
theorem eX7_line_10 : Dc cX7_line 10 (.bipush (-5)) 2 12 := ⟨by decide +kernel, rfl⟩
theorem eX7_line_12 : Dc cX7_line 12 (.ireturn) 1 13 := ⟨by decide +kernel, rfl⟩
theorem eX7_line_13 : Dc cX7_line 13 (.aload_n 0) 1 14 := ⟨by decide +kernel, rfl⟩
theorem eX7_line_14 : Dc cX7_line 14 (.aload_n 0) 1 15 := ⟨by decide +kernel, rfl⟩
theorem eX7_line_15 : Dc cX7_line 15 (.getfield 95) 3 18 := ⟨by decide +kernel, rfl⟩
theorem eX7_line_18 : Dc cX7_line 18 (.putfield 69) 3 21 := ⟨by decide +kernel, rfl⟩
theorem eX7_line_21 : Dc cX7_line 21 (.iconst 0) 1 22 := ⟨by decide +kernel, rfl⟩
theorem eX7_line_22 : Dc cX7_line 22 (.istore_n 1) 1 23 := ⟨by decide +kernel, rfl⟩
theorem eX7_line_23 : Dc cX7_line 23 (.iload_n 1) 1 24 := ⟨by decide +kernel, rfl⟩
theorem eX7_line_24 : Dc cX7_line 24 (.aload_n 0) 1 25 := ⟨by decide +kernel, rfl⟩
theorem eX7_line_25 : Dc cX7_line 25 (.getfield 69) 3 28 := ⟨by decide +kernel, rfl⟩
theorem eX7_line_28 : Dc cX7_line 28 (.if_icmp .ge 24) 3 31 := ⟨by decide +kernel, rfl⟩
theorem eX7_line_31 : Dc cX7_line 31 (.aload_n 0) 1 32 := ⟨by decide +kernel, rfl⟩
theorem eX7_line_32 : Dc cX7_line 32 (.getfield 7) 3 35 := ⟨by decide +kernel, rfl⟩
theorem eX7_line_35 : Dc cX7_line 35 (.iload_n 1) 1 36 := ⟨by decide +kernel, rfl⟩
theorem eX7_line_36 : Dc cX7_line 36 (.aload_n 0) 1 37 := ⟨by decide +kernel, rfl⟩
theorem eX7_line_37 : Dc cX7_line 37 (.getfield 37) 3 40 := ⟨by decide +kernel, rfl⟩
theorem eX7_line_40 : Dc cX7_line 40 (.iload_n 1) 1 41 := ⟨by decide +kernel, rfl⟩
theorem eX7_line_41 : Dc cX7_line 41 (.iaload) 1 42 := ⟨by decide +kernel, rfl⟩
theorem eX7_line_42 : Dc cX7_line 42 (.bipush 48) 2 44 := ⟨by decide +kernel, rfl⟩
theorem eX7_line_44 : Dc cX7_line 44 (.isub) 1 45 := ⟨by decide +kernel, rfl⟩
theorem eX7_line_45 : Dc cX7_line 45 (.iastore) 1 46 := ⟨by decide +kernel, rfl⟩
theorem eX7_line_46 : Dc cX7_line 46 (.iinc 1 1) 3 49 := ⟨by decide +kernel, rfl⟩
theorem eX7_line_49 : Dc cX7_line 49 (.goto (-26)) 3 52 := ⟨by decide +kernel, rfl⟩
theorem eX7_line_52 : Dc cX7_line 52 (.aload_n 0) 1 53 := ⟨by decide +kernel, rfl⟩
theorem eX7_line_53 : Dc cX7_line 53 (.iconst 0) 1 54 := ⟨by decide +kernel, rfl⟩
theorem eX7_line_54 : Dc cX7_line 54 (.putfield 83) 3 57 := ⟨by decide +kernel, rfl⟩
theorem eX7_line_57 : Dc cX7_line 57 (.aload_n 0) 1 58 := ⟨by decide +kernel, rfl⟩
theorem eX7_line_58 : Dc cX7_line 58 (.iconst 0) 1 59 := ⟨by decide +kernel, rfl⟩
theorem eX7_line_59 : Dc cX7_line 59 (.putfield 88) 3 62 := ⟨by decide +kernel, rfl⟩
theorem eX7_line_62 : Dc cX7_line 62 (.aload_n 0) 1 63 := ⟨by decide +kernel, rfl⟩
theorem eX7_line_63 : Dc cX7_line 63 (.iconst 0) 1 64 := ⟨by decide +kernel, rfl⟩
theorem eX7_line_64 : Dc cX7_line 64 (.putfield 106) 3 67 := ⟨by decide +kernel, rfl⟩
theorem eX7_line_67 : Dc cX7_line 67 (.aload_n 0) 1 68 := ⟨by decide +kernel, rfl⟩
theorem eX7_line_68 : Dc cX7_line 68 (.iconst 0) 1 69 := ⟨by decide +kernel, rfl⟩
theorem eX7_line_69 : Dc cX7_line 69 (.putfield 95) 3 72 := ⟨by decide +kernel, rfl⟩
theorem eX7_line_72 : Dc cX7_line 72 (.aload_n 0) 1 73 := ⟨by decide +kernel, rfl⟩
theorem eX7_line_73 : Dc cX7_line 73 (.getfield 69) 3 76 := ⟨by decide +kernel, rfl⟩
theorem eX7_line_76 : Dc cX7_line 76 (.ireturn) 1 77 := ⟨by decide +kernel, rfl⟩
def fX7_line_L23 (k : SS → Option (Int32 × SS))  : Nat → Int32 → SS → Option (Int32 × SS)
  | 0, _, _ => none
  | n + 1, a1, c => if (c.1 0) ≤ a1 then k c else ald 20 (c.2 15) a1 (fun v4 => ckb 6 a1 (fX7_line_L23 k n (a1 + (1 : Int32)) (sA c 1 (a1).toNatClampNeg (v4 - (48 : Int32)))))
def fX7_line (c : SS)  : Option (Int32 × SS) := Option.bind (fX7_faultOfDigits c (6 : Int32) (1 : Int32)) (fun q1 => if q1 < (0 : Int32) then fX7_line_L23 (fun (c6 : SS) => some ((c6.1 0), (sF (sF (sF (sF c6 2 (0 : Int32)) 3 (0 : Int32)) 14 (0 : Int32)) 16 (0 : Int32)))) fu (0 : Int32) (sF c 0 (c.1 16)) else some ((-5 : Int32), c))
set_option maxRecDepth 20000 in
theorem ctX7_line_L23 (l : Launch) (G : tg_G) (A : Nat → Nat) (k : SS → Option (Int32 × SS))  {z : Int32 × SS} (hk : ∀ (ec : SS), k ec = some z → V l G (tg_Zm G (fun v w1 => v = some (.int z.1) ∧ w1 = wM G A z.2) 0 0) tg_E0 (tg_R 2 48) "TramGodModel" "line" cX7_line 2 (some .int) 52 [(0, .ref (A 0))] [] (wM G A ec) 0 0) : ∀ (n : Nat) (a1 : Int32) (c : SS), fX7_line_L23 k n a1 c = some z → V l G (tg_Zm G (fun v w1 => v = some (.int z.1) ∧ w1 = wM G A z.2) 0 0) tg_E0 (tg_R 2 48) "TramGodModel" "line" cX7_line 2 (some .int) 23 [(0, .ref (A 0)), (1, .int a1)] [] (wM G A c) 0 0 := by
  intro n
  induction n with
  | zero => intro a1 c h; exact absurd h (by simp [fX7_line_L23])
  | succ n ih =>
    intro a1 c h
    unfold fX7_line_L23 at h
    refine V_iload_n eX7_line_23 1 rfl ?_
    refine V_aload_n eX7_line_24 0 rfl ?_
    refine V_get (v := .int (c.1 0)) eX7_line_25 inX7 0 rfl rfl 0 (Nat.le_of_ble_eq_true rfl) tw_645 rfl ?_
    refine V_icmp_ge (tgt := 52) eX7_line_28 rfl (fun hb3 => ?_) (fun hb3 => ?_)
    · replace h := (if_pos hb3).symm.trans h
      refine V_lv (lv' := [(0, .ref (A 0))]) [0] rfl ?_
      exact hk c h
    · replace h := (if_neg hb3).symm.trans h
      refine V_aload_n eX7_line_31 0 rfl ?_
      refine V_get (v := .ref (A 1)) eX7_line_32 inX7 0 rfl rfl 1 (Nat.le_of_ble_eq_true rfl) tw_646 rfl ?_
      refine V_iload_n eX7_line_35 1 rfl ?_
      refine V_aload_n eX7_line_36 0 rfl ?_
      refine V_get (v := .ref (A 10)) eX7_line_37 inX7 0 rfl rfl 15 (Nat.le_of_ble_eq_true rfl) tw_660 rfl ?_
      refine V_iload_n eX7_line_40 1 rfl ?_
      obtain ⟨v4, hi4, ev4, h⟩ := ald_some h
      refine V_ialdv eX7_line_41 10 rfl hi4 ev4 ?_
      refine V_bipush (v := (48 : Int32)) eX7_line_42 rfl ?_
      refine V_isub eX7_line_44 ?_
      obtain ⟨hi5, h⟩ := ckb_some h
      refine V_iast (w' := wM G A (sA c 1 (a1).toNatClampNeg (v4 - (48 : Int32)))) eX7_line_45 1 rfl hi5 rfl ?_
      refine V_iinc (v := (a1 + (1 : Int32))) (lv' := [(1, .int (a1 + (1 : Int32))), (0, .ref (A 0))]) eX7_line_46 1 rfl rfl (Nat.le_of_ble_eq_true rfl) rfl ?_
      refine V_goto (tgt := 23) eX7_line_49 rfl ?_
      refine V_lv (lv' := [(0, .ref (A 0)), (1, .int (a1 + (1 : Int32)))]) [1, 0] rfl ?_
      exact ih (a1 + (1 : Int32)) (sA c 1 (a1).toNatClampNeg (v4 - (48 : Int32))) h
set_option maxRecDepth 20000 in
theorem ctX7_line (l : Launch) (G : tg_G) (A : Nat → Nat) (c : SS)  {z : Int32 × SS} (h : fX7_line c  = some z) : Mt l G yX7_line cX7_line 2 (some .int) (tg_R 2 48) [.ref (A 0)] (wM G A c) (fun v w1 => v = some (.int z.1) ∧ w1 = wM G A z.2) := by
  refine Mt_of2 (own := "TramGodModel") (nm := "line") rfl rfl rfl (Nat.le_of_ble_eq_true rfl) (lv := [(0, .ref (A 0))]) rfl ?_
  unfold fX7_line at h
  refine V_aload_n eX7_line_0 0 rfl ?_
  refine V_bipush (v := (6 : Int32)) eX7_line_1 rfl ?_
  refine V_iconst (v := (1 : Int32)) eX7_line_3 rfl ?_
  obtain ⟨q1, hc1, h⟩ := Option.bind_eq_some_iff.mp h
  refine V_callVi (rest := []) eX7_line_4 (ctX7_faultOfDigits l G A c (6 : Int32) (1 : Int32) hc1) tc_760 tw_757 tw_8 tw_759 ts_20 0 rfl rfl hdX7_faultOfDigits rfl ⟨Nat.le_of_ble_eq_true rfl, Nat.le_of_ble_eq_true rfl⟩ rfl (Nat.le_of_ble_eq_true rfl) ⟨Nat.zero_le _, Nat.zero_le _⟩ ?_
  refine V_if_lt (tgt := 13) eX7_line_7 rfl (fun hb2 => ?_) (fun hb2 => ?_)
  · replace h := (if_pos hb2).symm.trans h
    refine V_aload_n eX7_line_13 0 rfl ?_
    refine V_aload_n eX7_line_14 0 rfl ?_
    refine V_get (v := .int (c.1 16)) eX7_line_15 inX7 0 rfl rfl 16 (Nat.le_of_ble_eq_true rfl) tw_661 rfl ?_
    refine V_put (w' := wM G A (sF c 0 (c.1 16))) eX7_line_18 inX7 tyX7 tyX7_ok nmX7 0 rfl rfl 0 (Nat.le_of_ble_eq_true rfl) tw_645 rfl rfl rfl rfl (Nat.le_of_ble_eq_true rfl) rfl ?_
    refine V_iconst (v := (0 : Int32)) eX7_line_21 rfl ?_
    refine V_istore_n (lv' := [(1, .int (0 : Int32)), (0, .ref (A 0))]) eX7_line_22 (Nat.le_of_ble_eq_true rfl) rfl ?_
    refine V_lv (lv' := [(0, .ref (A 0)), (1, .int (0 : Int32))]) [1, 0] rfl ?_
    refine ctX7_line_L23 l G A _ ?_ fu (0 : Int32) (sF c 0 (c.1 16)) h
    · intro c6 h
      refine V_aload_n eX7_line_52 0 rfl ?_
      refine V_iconst (v := (0 : Int32)) eX7_line_53 rfl ?_
      refine V_put (w' := wM G A (sF c6 2 (0 : Int32))) eX7_line_54 inX7 tyX7 tyX7_ok nmX7 0 rfl rfl 2 (Nat.le_of_ble_eq_true rfl) tw_647 rfl rfl rfl rfl (Nat.le_of_ble_eq_true rfl) rfl ?_
      refine V_aload_n eX7_line_57 0 rfl ?_
      refine V_iconst (v := (0 : Int32)) eX7_line_58 rfl ?_
      refine V_put (w' := wM G A (sF (sF c6 2 (0 : Int32)) 3 (0 : Int32))) eX7_line_59 inX7 tyX7 tyX7_ok nmX7 0 rfl rfl 3 (Nat.le_of_ble_eq_true rfl) tw_648 rfl rfl rfl rfl (Nat.le_of_ble_eq_true rfl) rfl ?_
      refine V_aload_n eX7_line_62 0 rfl ?_
      refine V_iconst (v := (0 : Int32)) eX7_line_63 rfl ?_
      refine V_put (w' := wM G A (sF (sF (sF c6 2 (0 : Int32)) 3 (0 : Int32)) 14 (0 : Int32))) eX7_line_64 inX7 tyX7 tyX7_ok nmX7 0 rfl rfl 14 (Nat.le_of_ble_eq_true rfl) tw_659 rfl rfl rfl rfl (Nat.le_of_ble_eq_true rfl) rfl ?_
      refine V_aload_n eX7_line_67 0 rfl ?_
      refine V_iconst (v := (0 : Int32)) eX7_line_68 rfl ?_
      refine V_put (w' := wM G A (sF (sF (sF (sF c6 2 (0 : Int32)) 3 (0 : Int32)) 14 (0 : Int32)) 16 (0 : Int32))) eX7_line_69 inX7 tyX7 tyX7_ok nmX7 0 rfl rfl 16 (Nat.le_of_ble_eq_true rfl) tw_661 rfl rfl rfl rfl (Nat.le_of_ble_eq_true rfl) rfl ?_
      refine V_aload_n eX7_line_72 0 rfl ?_
      refine V_get (v := .int (c6.1 0)) eX7_line_73 inX7 0 rfl rfl 0 (Nat.le_of_ble_eq_true rfl) tw_645 rfl ?_
      obtain rfl := Option.some.inj h
      exact V_ret eX7_line_76 rfl ⟨rfl, rfl⟩
  · replace h := (if_neg hb2).symm.trans h
    refine V_bipush (v := (-5 : Int32)) eX7_line_10 rfl ?_
    obtain rfl := Option.some.inj h
    exact V_ret eX7_line_12 rfl ⟨rfl, rfl⟩
theorem hdX7_isStop : yX7_isStop.cls ≠ "java/lang/invoke/MethodHandle" ∧ yX7_isStop.cls ≠ "java/lang/invoke/VarHandle" ∧ (parseMethodDescriptor yX7_isStop.desc).map (fun d => d.parameters.length) = some 1 := by decide +kernel
theorem eX7_isStop_0 : Dc cX7_isStop 0 (.iload_n 1) 1 1 := ⟨by decide +kernel, rfl⟩
theorem eX7_isStop_1 : Dc cX7_isStop 1 (.i2l) 1 2 := ⟨by decide +kernel, rfl⟩
theorem eX7_isStop_2 : Dc cX7_isStop 2 (.lconst 0) 1 3 := ⟨by decide +kernel, rfl⟩
theorem eX7_isStop_3 : Dc cX7_isStop 3 (.aload_n 0) 1 4 := ⟨by decide +kernel, rfl⟩
theorem eX7_isStop_4 : Dc cX7_isStop 4 (.getfield 69) 3 7 := ⟨by decide +kernel, rfl⟩
theorem eX7_isStop_7 : Dc cX7_isStop 7 (.iconst 1) 1 8 := ⟨by decide +kernel, rfl⟩
theorem eX7_isStop_8 : Dc cX7_isStop 8 (.isub) 1 9 := ⟨by decide +kernel, rfl⟩
theorem eX7_isStop_9 : Dc cX7_isStop 9 (.i2l) 1 10 := ⟨by decide +kernel, rfl⟩
theorem eX7_isStop_10 : Dc cX7_isStop 10 (.invokestatic 79) 3 13 := ⟨by decide +kernel, rfl⟩
theorem eX7_isStop_13 : Dc cX7_isStop 13 (.ireturn) 1 14 := ⟨by decide +kernel, rfl⟩
def fX7_isStop (c : SS) (p1 : Int32) : Int32 := (fX7_in (p1).toInt64 (0 : Int64) (((c.1 0) - (1 : Int32))).toInt64)
set_option maxRecDepth 20000 in
theorem ctX7_isStop (l : Launch) (G : tg_G) (A : Nat → Nat) (c : SS) (p1 : Int32) {z : Int32} (h : fX7_isStop c p1 = z) : Mt l G yX7_isStop cX7_isStop 2 (some .boolean) (tg_R 1 25) [.ref (A 0), .int p1] (wM G A c) (fun v w1 => v = some (.int z) ∧ w1 = wM G A c) := by
  refine Mt_of2 (own := "TramGodModel") (nm := "isStop") rfl rfl rfl (Nat.le_of_ble_eq_true rfl) (lv := [(0, .ref (A 0)), (1, .int p1)]) rfl ?_
  unfold fX7_isStop at h
  refine V_iload_n eX7_isStop_0 1 rfl ?_
  refine V_i2l eX7_isStop_1 ?_
  refine V_lconst (v := (0 : Int64)) eX7_isStop_2 rfl ?_
  refine V_aload_n eX7_isStop_3 0 rfl ?_
  refine V_get (v := .int (c.1 0)) eX7_isStop_4 inX7 0 rfl rfl 0 (Nat.le_of_ble_eq_true rfl) tw_645 rfl ?_
  refine V_iconst (v := (1 : Int32)) eX7_isStop_7 rfl ?_
  refine V_isub eX7_isStop_8 ?_
  refine V_i2l eX7_isStop_9 ?_
  refine V_callSi (rest := []) eX7_isStop_10 (ctX7_in l G _ (p1).toInt64 (0 : Int64) (((c.1 0) - (1 : Int32))).toInt64 rfl) tc_748 tw_746 tw_8 tw_747 hdX7_in rfl ⟨Nat.le_of_ble_eq_true rfl, Nat.le_of_ble_eq_true rfl⟩ rfl (Nat.le_of_ble_eq_true rfl) ⟨Nat.zero_le _, Nat.zero_le _⟩ ?_
  subst h
  exact V_zret eX7_isStop_13 rfl (bzX7_in (p1).toInt64 (0 : Int64) (((c.1 0) - (1 : Int32))).toInt64) ⟨rfl, rfl⟩
theorem bzX7_isStop (c : SS) (p1 : Int32) : narrow .boolean (.int (fX7_isStop c p1)) = .int (fX7_isStop c p1) := by
  unfold fX7_isStop
  repeat' split
  all_goals first | rfl | exact (bzX7_in (p1).toInt64 (0 : Int64) (((c.1 0) - (1 : Int32))).toInt64)
theorem hdX7_close : yX7_close.cls ≠ "java/lang/invoke/MethodHandle" ∧ yX7_close.cls ≠ "java/lang/invoke/VarHandle" ∧ (parseMethodDescriptor yX7_close.desc).map (fun d => d.parameters.length) = some 2 := by decide +kernel
theorem eX7_close_0 : Dc cX7_close 0 (.aload_n 0) 1 1 := ⟨by decide +kernel, rfl⟩
theorem eX7_close_1 : Dc cX7_close 1 (.iload_n 1) 1 2 := ⟨by decide +kernel, rfl⟩
theorem eX7_close_2 : Dc cX7_close 2 (.invokevirtual 109) 3 5 := ⟨by decide +kernel, rfl⟩
theorem eX7_close_5 : Dc cX7_close 5 (.ifCond .ne 5) 3 8 := ⟨by decide +kernel, rfl⟩
theorem eX7_close_8 : Dc cX7_close 8 (.iconst (-1)) 1 9 := ⟨by decide +kernel, rfl⟩
theorem eX7_close_9 : Dc cX7_close 9 (.ireturn) 1 10 := ⟨by decide +kernel, rfl⟩
theorem eX7_close_10 : Dc cX7_close 10 (.aload_n 0) 1 11 := ⟨by decide +kernel, rfl⟩
theorem eX7_close_11 : Dc cX7_close 11 (.iload_n 2) 1 12 := ⟨by decide +kernel, rfl⟩
theorem eX7_close_12 : Dc cX7_close 12 (.ifCond .eq 14) 3 15 := ⟨by decide +kernel, rfl⟩
theorem eX7_close_15 : Dc cX7_close 15 (.aload_n 0) 1 16 := ⟨by decide +kernel, rfl⟩
theorem eX7_close_16 : Dc cX7_close 16 (.getfield 83) 3 19 := ⟨by decide +kernel, rfl⟩
theorem eX7_close_19 : Dc cX7_close 19 (.iconst 1) 1 20 := ⟨by decide +kernel, rfl⟩
theorem eX7_close_20 : Dc cX7_close 20 (.iload_n 1) 1 21 := ⟨by decide +kernel, rfl⟩
theorem eX7_close_21 : Dc cX7_close 21 (.ishl) 1 22 := ⟨by decide +kernel, rfl⟩
theorem eX7_close_22 : Dc cX7_close 22 (.ior) 1 23 := ⟨by decide +kernel, rfl⟩
theorem eX7_close_23 : Dc cX7_close 23 (.goto 13) 3 26 := ⟨by decide +kernel, rfl⟩
theorem eX7_close_26 : Dc cX7_close 26 (.aload_n 0) 1 27 := ⟨by decide +kernel, rfl⟩
theorem eX7_close_27 : Dc cX7_close 27 (.getfield 83) 3 30 := ⟨by decide +kernel, rfl⟩
theorem eX7_close_30 : Dc cX7_close 30 (.iconst 1) 1 31 := ⟨by decide +kernel, rfl⟩
theorem eX7_close_31 : Dc cX7_close 31 (.iload_n 1) 1 32 := ⟨by decide +kernel, rfl⟩
theorem eX7_close_32 : Dc cX7_close 32 (.ishl) 1 33 := ⟨by decide +kernel, rfl⟩
theorem eX7_close_33 : Dc cX7_close 33 (.iconst (-1)) 1 34 := ⟨by decide +kernel, rfl⟩
theorem eX7_close_34 : Dc cX7_close 34 (.ixor) 1 35 := ⟨by decide +kernel, rfl⟩
theorem eX7_close_35 : Dc cX7_close 35 (.iand) 1 36 := ⟨by decide +kernel, rfl⟩
theorem eX7_close_36 : Dc cX7_close 36 (.putfield 83) 3 39 := ⟨by decide +kernel, rfl⟩
theorem eX7_close_39 : Dc cX7_close 39 (.aload_n 0) 1 40 := ⟨by decide +kernel, rfl⟩
theorem eX7_close_40 : Dc cX7_close 40 (.getfield 83) 3 43 := ⟨by decide +kernel, rfl⟩
theorem eX7_close_43 : Dc cX7_close 43 (.ireturn) 1 44 := ⟨by decide +kernel, rfl⟩
def fX7_close (c : SS) (p1 : Int32) (p2 : Int32) : Int32 × SS := if (fX7_isStop c p1) = (0 : Int32) then ((-1 : Int32), c) else jn (fun (x2 : Int32) => (x2, (sF c 2 x2))) (fun j36 => if p2 = (0 : Int32) then j36 ((c.1 2) &&& (((1 : Int32) <<< (p1 &&& 31)) ^^^ (-1 : Int32))) else j36 ((c.1 2) ||| ((1 : Int32) <<< (p1 &&& 31))))
set_option maxRecDepth 20000 in
theorem ctX7_close (l : Launch) (G : tg_G) (A : Nat → Nat) (c : SS) (p1 : Int32) (p2 : Int32) {z : Int32 × SS} (h : fX7_close c p1 p2 = z) : Mt l G yX7_close cX7_close 3 (some .int) (tg_R 2 46) [.ref (A 0), .int p1, .int p2] (wM G A c) (fun v w1 => v = some (.int z.1) ∧ w1 = wM G A z.2) := by
  refine Mt_of2 (own := "TramGodModel") (nm := "close") rfl rfl rfl (Nat.le_of_ble_eq_true rfl) (lv := [(0, .ref (A 0)), (1, .int p1), (2, .int p2)]) rfl ?_
  unfold fX7_close at h
  refine V_aload_n eX7_close_0 0 rfl ?_
  refine V_iload_n eX7_close_1 1 rfl ?_
  refine V_callVi (rest := []) eX7_close_2 (ctX7_isStop l G A c p1 rfl) tc_774 tw_771 tw_8 tw_773 ts_21 0 rfl rfl hdX7_isStop rfl ⟨Nat.le_of_ble_eq_true rfl, Nat.le_of_ble_eq_true rfl⟩ rfl (Nat.le_of_ble_eq_true rfl) ⟨Nat.zero_le _, Nat.zero_le _⟩ ?_
  refine V_if_ne (tgt := 10) eX7_close_5 rfl (fun hb1 => ?_) (fun hb1 => ?_)
  · replace h := (if_neg hb1).symm.trans h
    refine V_aload_n eX7_close_10 0 rfl ?_
    refine V_iload_n eX7_close_11 2 rfl ?_
    refine jn_elim h (fun j => ∀ (x2 : Int32), j x2 = z → V l G (tg_Zm G (fun v w1 => v = some (.int z.1) ∧ w1 = wM G A z.2) 0 0) tg_E0 (tg_R 2 46) "TramGodModel" "close" cX7_close 3 (some .int) 36 [(0, .ref (A 0))] [.int x2, .ref (A 0)] (wM G A c) 0 0) ?_ (fun j36 hj36 h => ?_)
    · intro x2 h
      refine V_put (w' := wM G A (sF c 2 x2)) eX7_close_36 inX7 tyX7 tyX7_ok nmX7 0 rfl rfl 2 (Nat.le_of_ble_eq_true rfl) tw_647 rfl rfl rfl rfl (Nat.le_of_ble_eq_true rfl) rfl ?_
      refine V_aload_n eX7_close_39 0 rfl ?_
      refine V_get (v := .int x2) eX7_close_40 inX7 0 rfl rfl 2 (Nat.le_of_ble_eq_true rfl) tw_647 rfl ?_
      subst h
      exact V_ret eX7_close_43 rfl ⟨rfl, rfl⟩
    refine V_if_eq (tgt := 26) eX7_close_12 rfl (fun hb3 => ?_) (fun hb3 => ?_)
    · replace h := (if_pos hb3).symm.trans h
      refine V_aload_n eX7_close_26 0 rfl ?_
      refine V_get (v := .int (c.1 2)) eX7_close_27 inX7 0 rfl rfl 2 (Nat.le_of_ble_eq_true rfl) tw_647 rfl ?_
      refine V_iconst (v := (1 : Int32)) eX7_close_30 rfl ?_
      refine V_iload_n eX7_close_31 1 rfl ?_
      refine V_ishl eX7_close_32 ?_
      refine V_iconst (v := (-1 : Int32)) eX7_close_33 rfl ?_
      refine V_ixor eX7_close_34 ?_
      refine V_iand eX7_close_35 ?_
      refine V_lv (lv' := [(0, .ref (A 0))]) [0] rfl ?_
      exact hj36 ((c.1 2) &&& (((1 : Int32) <<< (p1 &&& 31)) ^^^ (-1 : Int32))) h
    · replace h := (if_neg hb3).symm.trans h
      refine V_aload_n eX7_close_15 0 rfl ?_
      refine V_get (v := .int (c.1 2)) eX7_close_16 inX7 0 rfl rfl 2 (Nat.le_of_ble_eq_true rfl) tw_647 rfl ?_
      refine V_iconst (v := (1 : Int32)) eX7_close_19 rfl ?_
      refine V_iload_n eX7_close_20 1 rfl ?_
      refine V_ishl eX7_close_21 ?_
      refine V_ior eX7_close_22 ?_
      refine V_goto (tgt := 36) eX7_close_23 rfl ?_
      refine V_lv (lv' := [(0, .ref (A 0))]) [0] rfl ?_
      exact hj36 ((c.1 2) ||| ((1 : Int32) <<< (p1 &&& 31))) h
  · replace h := (if_pos hb1).symm.trans h
    refine V_iconst (v := (-1 : Int32)) eX7_close_8 rfl ?_
    subst h
    exact V_ret eX7_close_9 rfl ⟨rfl, rfl⟩
theorem hdX7_isGood : yX7_isGood.cls ≠ "java/lang/invoke/MethodHandle" ∧ yX7_isGood.cls ≠ "java/lang/invoke/VarHandle" ∧ (parseMethodDescriptor yX7_isGood.desc).map (fun d => d.parameters.length) = some 1 := by decide +kernel
theorem eX7_isGood_0 : Dc cX7_isGood 0 (.iload_n 0) 1 1 := ⟨by decide +kernel, rfl⟩
theorem eX7_isGood_1 : Dc cX7_isGood 1 (.i2l) 1 2 := ⟨by decide +kernel, rfl⟩
theorem eX7_isGood_2 : Dc cX7_isGood 2 (.ldc2_w 113) 3 5 := ⟨by decide +kernel, rfl⟩
theorem eX7_isGood_5 : Dc cX7_isGood 5 (.ldc2_w 115) 3 8 := ⟨by decide +kernel, rfl⟩
theorem eX7_isGood_8 : Dc cX7_isGood 8 (.invokestatic 79) 3 11 := ⟨by decide +kernel, rfl⟩
theorem eX7_isGood_11 : Dc cX7_isGood 11 (.ireturn) 1 12 := ⟨by decide +kernel, rfl⟩
def fX7_isGood (p0 : Int32) : Int32 := (fX7_in (p0).toInt64 (-9 : Int64) (9 : Int64))
set_option maxRecDepth 20000 in
theorem ctX7_isGood (l : Launch) (G : tg_G) (w : va_W) (p0 : Int32) {z : Int32} (h : fX7_isGood p0 = z) : Mt l G yX7_isGood cX7_isGood 1 (some .boolean) (tg_R 1 25) [.int p0] (w) (fun v w1 => v = some (.int z) ∧ w1 = w) := by
  refine Mt_of2 (own := "TramGodModel") (nm := "isGood") rfl rfl rfl (Nat.le_of_ble_eq_true rfl) (lv := [(0, .int p0)]) rfl ?_
  unfold fX7_isGood at h
  refine V_iload_n eX7_isGood_0 0 rfl ?_
  refine V_i2l eX7_isGood_1 ?_
  refine V_ldc2 eX7_isGood_2 tw_784 ?_
  refine V_ldc2 eX7_isGood_5 tw_785 ?_
  refine V_callSi (rest := []) eX7_isGood_8 (ctX7_in l G _ (p0).toInt64 (-9 : Int64) (9 : Int64) rfl) tc_748 tw_746 tw_8 tw_747 hdX7_in rfl ⟨Nat.le_of_ble_eq_true rfl, Nat.le_of_ble_eq_true rfl⟩ rfl (Nat.le_of_ble_eq_true rfl) ⟨Nat.zero_le _, Nat.zero_le _⟩ ?_
  subst h
  exact V_zret eX7_isGood_11 rfl (bzX7_in (p0).toInt64 (-9 : Int64) (9 : Int64)) ⟨rfl, rfl⟩
theorem bzX7_isGood (p0 : Int32) : narrow .boolean (.int (fX7_isGood p0)) = .int (fX7_isGood p0) := by
  unfold fX7_isGood
  repeat' split
  all_goals first | rfl | exact (bzX7_in (p0).toInt64 (-9 : Int64) (9 : Int64))
theorem hdX7_ones : yX7_ones.cls ≠ "java/lang/invoke/MethodHandle" ∧ yX7_ones.cls ≠ "java/lang/invoke/VarHandle" ∧ (parseMethodDescriptor yX7_ones.desc).map (fun d => d.parameters.length) = some 1 := by decide +kernel
theorem eX7_ones_0 : Dc cX7_ones 0 (.iconst 0) 1 1 := ⟨by decide +kernel, rfl⟩
theorem eX7_ones_1 : Dc cX7_ones 1 (.istore_n 1) 1 2 := ⟨by decide +kernel, rfl⟩
theorem eX7_ones_2 : Dc cX7_ones 2 (.iload_n 0) 1 3 := ⟨by decide +kernel, rfl⟩
theorem eX7_ones_3 : Dc cX7_ones 3 (.istore_n 2) 1 4 := ⟨by decide +kernel, rfl⟩
theorem eX7_ones_4 : Dc cX7_ones 4 (.iload_n 2) 1 5 := ⟨by decide +kernel, rfl⟩
theorem eX7_ones_5 : Dc cX7_ones 5 (.ifCond .eq 15) 3 8 := ⟨by decide +kernel, rfl⟩
theorem eX7_ones_8 : Dc cX7_ones 8 (.iinc 1 1) 3 11 := ⟨by decide +kernel, rfl⟩
theorem eX7_ones_11 : Dc cX7_ones 11 (.iload_n 2) 1 12 := ⟨by decide +kernel, rfl⟩
theorem eX7_ones_12 : Dc cX7_ones 12 (.iload_n 2) 1 13 := ⟨by decide +kernel, rfl⟩
theorem eX7_ones_13 : Dc cX7_ones 13 (.iconst 1) 1 14 := ⟨by decide +kernel, rfl⟩
theorem eX7_ones_14 : Dc cX7_ones 14 (.isub) 1 15 := ⟨by decide +kernel, rfl⟩
theorem eX7_ones_15 : Dc cX7_ones 15 (.iand) 1 16 := ⟨by decide +kernel, rfl⟩
theorem eX7_ones_16 : Dc cX7_ones 16 (.istore_n 2) 1 17 := ⟨by decide +kernel, rfl⟩
theorem eX7_ones_17 : Dc cX7_ones 17 (.goto (-13)) 3 20 := ⟨by decide +kernel, rfl⟩
theorem eX7_ones_20 : Dc cX7_ones 20 (.iload_n 1) 1 21 := ⟨by decide +kernel, rfl⟩
theorem eX7_ones_21 : Dc cX7_ones 21 (.ireturn) 1 22 := ⟨by decide +kernel, rfl⟩
def fX7_ones_L4   : Nat → Int32 → Int32 → Option (Int32)
  | 0, _, _ => none
  | n + 1, a1, a2 => if a2 = (0 : Int32) then some a1 else fX7_ones_L4  n (a1 + (1 : Int32)) (a2 &&& (a2 - (1 : Int32)))
def fX7_ones (p0 : Int32) : Option (Int32) := fX7_ones_L4  fu (0 : Int32) p0
set_option maxRecDepth 20000 in
theorem ctX7_ones_L4 (l : Launch) (G : tg_G) (w : va_W)   {z : Int32}  : ∀ (n : Nat) (a1 : Int32) (a2 : Int32), fX7_ones_L4  n a1 a2 = some z → V l G (tg_Zm G (fun v w1 => v = some (.int z) ∧ w1 = w) 0 0) tg_E0 (tg_R 0 0) "TramGodModel" "ones" cX7_ones 3 (some .int) 4 [(1, .int a1), (2, .int a2)] [] (w) 0 0 := by
  intro n
  induction n with
  | zero => intro a1 a2 h; exact absurd h (by simp [fX7_ones_L4])
  | succ n ih =>
    intro a1 a2 h
    unfold fX7_ones_L4 at h
    refine V_iload_n eX7_ones_4 1 rfl ?_
    refine V_if_eq (tgt := 20) eX7_ones_5 rfl (fun hb1 => ?_) (fun hb1 => ?_)
    · replace h := (if_pos hb1).symm.trans h
      refine V_iload_n eX7_ones_20 0 rfl ?_
      obtain rfl := Option.some.inj h
      exact V_ret eX7_ones_21 rfl ⟨rfl, rfl⟩
    · replace h := (if_neg hb1).symm.trans h
      refine V_iinc (v := (a1 + (1 : Int32))) (lv' := [(1, .int (a1 + (1 : Int32))), (2, .int a2)]) eX7_ones_8 0 rfl rfl (Nat.le_of_ble_eq_true rfl) rfl ?_
      refine V_iload_n eX7_ones_11 1 rfl ?_
      refine V_iload_n eX7_ones_12 1 rfl ?_
      refine V_iconst (v := (1 : Int32)) eX7_ones_13 rfl ?_
      refine V_isub eX7_ones_14 ?_
      refine V_iand eX7_ones_15 ?_
      refine V_istore_n (lv' := [(2, .int (a2 &&& (a2 - (1 : Int32)))), (1, .int (a1 + (1 : Int32)))]) eX7_ones_16 (Nat.le_of_ble_eq_true rfl) rfl ?_
      refine V_goto (tgt := 4) eX7_ones_17 rfl ?_
      refine V_lv (lv' := [(1, .int (a1 + (1 : Int32))), (2, .int (a2 &&& (a2 - (1 : Int32))))]) [1, 0] rfl ?_
      exact ih (a1 + (1 : Int32)) (a2 &&& (a2 - (1 : Int32))) h
set_option maxRecDepth 20000 in
theorem ctX7_ones (l : Launch) (G : tg_G) (w : va_W) (p0 : Int32) {z : Int32} (h : fX7_ones p0 = some z) : Mt l G yX7_ones cX7_ones 3 (some .int) (tg_R 0 0) [.int p0] (w) (fun v w1 => v = some (.int z) ∧ w1 = w) := by
  refine Mt_of2 (own := "TramGodModel") (nm := "ones") rfl rfl rfl (Nat.le_of_ble_eq_true rfl) (lv := [(0, .int p0)]) rfl ?_
  unfold fX7_ones at h
  refine V_iconst (v := (0 : Int32)) eX7_ones_0 rfl ?_
  refine V_istore_n (lv' := [(1, .int (0 : Int32)), (0, .int p0)]) eX7_ones_1 (Nat.le_of_ble_eq_true rfl) rfl ?_
  refine V_iload_n eX7_ones_2 1 rfl ?_
  refine V_istore_n (lv' := [(2, .int p0), (1, .int (0 : Int32)), (0, .int p0)]) eX7_ones_3 (Nat.le_of_ble_eq_true rfl) rfl ?_
  refine V_lv (lv' := [(1, .int (0 : Int32)), (2, .int p0)]) [1, 0] rfl ?_
  refine ctX7_ones_L4 l G _ fu (0 : Int32) p0 h
theorem hdX7_person : yX7_person.cls ≠ "java/lang/invoke/MethodHandle" ∧ yX7_person.cls ≠ "java/lang/invoke/VarHandle" ∧ (parseMethodDescriptor yX7_person.desc).map (fun d => d.parameters.length) = some 6 := by decide +kernel
theorem eX7_person_0 : Dc cX7_person 0 (.iload_n 1) 1 1 := ⟨by decide +kernel, rfl⟩
theorem eX7_person_1 : Dc cX7_person 1 (.i2l) 1 2 := ⟨by decide +kernel, rfl⟩
theorem eX7_person_2 : Dc cX7_person 2 (.lconst 0) 1 3 := ⟨by decide +kernel, rfl⟩
theorem eX7_person_3 : Dc cX7_person 3 (.ldc2_w 86) 3 6 := ⟨by decide +kernel, rfl⟩
theorem eX7_person_6 : Dc cX7_person 6 (.invokestatic 79) 3 9 := ⟨by decide +kernel, rfl⟩
theorem eX7_person_9 : Dc cX7_person 9 (.ifCond .eq 11) 3 12 := ⟨by decide +kernel, rfl⟩
theorem eX7_person_12 : Dc cX7_person 12 (.aload_n 0) 1 13 := ⟨by decide +kernel, rfl⟩
theorem eX7_person_13 : Dc cX7_person 13 (.iload_n 2) 1 14 := ⟨by decide +kernel, rfl⟩
theorem eX7_person_14 : Dc cX7_person 14 (.invokevirtual 109) 3 17 := ⟨by decide +kernel, rfl⟩
theorem eX7_person_17 : Dc cX7_person 17 (.ifCond .ne 5) 3 20 := ⟨by decide +kernel, rfl⟩
theorem eX7_person_20 : Dc cX7_person 20 (.iconst (-1)) 1 21 := ⟨by decide +kernel, rfl⟩
theorem eX7_person_21 : Dc cX7_person 21 (.ireturn) 1 22 := ⟨by decide +kernel, rfl⟩
theorem eX7_person_22 : Dc cX7_person 22 (.iload_n 3) 1 23 := ⟨by decide +kernel, rfl⟩
theorem eX7_person_23 : Dc cX7_person 23 (.i2l) 1 24 := ⟨by decide +kernel, rfl⟩
theorem eX7_person_24 : Dc cX7_person 24 (.lconst 0) 1 25 := ⟨by decide +kernel, rfl⟩
theorem eX7_person_25 : Dc cX7_person 25 (.ldc2_w 117) 3 28 := ⟨by decide +kernel, rfl⟩
theorem eX7_person_28 : Dc cX7_person 28 (.invokestatic 79) 3 31 := ⟨by decide +kernel, rfl⟩
theorem eX7_person_31 : Dc cX7_person 31 (.ifCond .eq 27) 3 34 := ⟨by decide +kernel, rfl⟩
theorem eX7_person_34 : Dc cX7_person 34 (.iload 4) 2 36 := ⟨by decide +kernel, rfl⟩
theorem eX7_person_36 : Dc cX7_person 36 (.invokestatic 119) 3 39 := ⟨by decide +kernel, rfl⟩
theorem eX7_person_39 : Dc cX7_person 39 (.ifCond .eq 19) 3 42 := ⟨by decide +kernel, rfl⟩
theorem eX7_person_42 : Dc cX7_person 42 (.iload 5) 2 44 := ⟨by decide +kernel, rfl⟩
theorem eX7_person_44 : Dc cX7_person 44 (.invokestatic 119) 3 47 := ⟨by decide +kernel, rfl⟩
theorem eX7_person_47 : Dc cX7_person 47 (.ifCond .eq 11) 3 50 := ⟨by decide +kernel, rfl⟩
theorem eX7_person_50 : Dc cX7_person 50 (.iload 6) 2 52 := ⟨by decide +kernel, rfl⟩
theorem eX7_person_52 : Dc cX7_person 52 (.invokestatic 119) 3 55 := ⟨by decide +kernel, rfl⟩
theorem eX7_person_55 : Dc cX7_person 55 (.ifCond .ne 6) 3 58 := ⟨by decide +kernel, rfl⟩
theorem eX7_person_58 : Dc cX7_person 58 (.bipush (-2)) 2 60 := ⟨by decide +kernel, rfl⟩
theorem eX7_person_60 : Dc cX7_person 60 (.ireturn) 1 61 := ⟨by decide +kernel, rfl⟩
theorem eX7_person_61 : Dc cX7_person 61 (.aload_n 0) 1 62 := ⟨by decide +kernel, rfl⟩
theorem eX7_person_62 : Dc cX7_person 62 (.getfield 13) 3 65 := ⟨by decide +kernel, rfl⟩
theorem eX7_person_65 : Dc cX7_person 65 (.iload_n 1) 1 66 := ⟨by decide +kernel, rfl⟩
theorem eX7_person_66 : Dc cX7_person 66 (.iload_n 2) 1 67 := ⟨by decide +kernel, rfl⟩
theorem eX7_person_67 : Dc cX7_person 67 (.iastore) 1 68 := ⟨by decide +kernel, rfl⟩
theorem eX7_person_68 : Dc cX7_person 68 (.aload_n 0) 1 69 := ⟨by decide +kernel, rfl⟩
theorem eX7_person_69 : Dc cX7_person 69 (.getfield 16) 3 72 := ⟨by decide +kernel, rfl⟩
theorem eX7_person_72 : Dc cX7_person 72 (.iload_n 1) 1 73 := ⟨by decide +kernel, rfl⟩
theorem eX7_person_73 : Dc cX7_person 73 (.iload_n 3) 1 74 := ⟨by decide +kernel, rfl⟩
theorem eX7_person_74 : Dc cX7_person 74 (.iastore) 1 75 := ⟨by decide +kernel, rfl⟩
theorem eX7_person_75 : Dc cX7_person 75 (.aload_n 0) 1 76 := ⟨by decide +kernel, rfl⟩
theorem eX7_person_76 : Dc cX7_person 76 (.getfield 19) 3 79 := ⟨by decide +kernel, rfl⟩
theorem eX7_person_79 : Dc cX7_person 79 (.iload_n 1) 1 80 := ⟨by decide +kernel, rfl⟩
theorem eX7_person_80 : Dc cX7_person 80 (.iload 4) 2 82 := ⟨by decide +kernel, rfl⟩
theorem eX7_person_82 : Dc cX7_person 82 (.iastore) 1 83 := ⟨by decide +kernel, rfl⟩
theorem eX7_person_83 : Dc cX7_person 83 (.aload_n 0) 1 84 := ⟨by decide +kernel, rfl⟩
theorem eX7_person_84 : Dc cX7_person 84 (.getfield 22) 3 87 := ⟨by decide +kernel, rfl⟩
theorem eX7_person_87 : Dc cX7_person 87 (.iload_n 1) 1 88 := ⟨by decide +kernel, rfl⟩
theorem eX7_person_88 : Dc cX7_person 88 (.iload 5) 2 90 := ⟨by decide +kernel, rfl⟩
theorem eX7_person_90 : Dc cX7_person 90 (.iastore) 1 91 := ⟨by decide +kernel, rfl⟩
theorem eX7_person_91 : Dc cX7_person 91 (.aload_n 0) 1 92 := ⟨by decide +kernel, rfl⟩
theorem eX7_person_92 : Dc cX7_person 92 (.getfield 25) 3 95 := ⟨by decide +kernel, rfl⟩
theorem eX7_person_95 : Dc cX7_person 95 (.iload_n 1) 1 96 := ⟨by decide +kernel, rfl⟩
theorem eX7_person_96 : Dc cX7_person 96 (.iload 6) 2 98 := ⟨by decide +kernel, rfl⟩
theorem eX7_person_98 : Dc cX7_person 98 (.iastore) 1 99 := ⟨by decide +kernel, rfl⟩
theorem eX7_person_99 : Dc cX7_person 99 (.aload_n 0) 1 100 := ⟨by decide +kernel, rfl⟩
theorem eX7_person_100 : Dc cX7_person 100 (.getfield 28) 3 103 := ⟨by decide +kernel, rfl⟩
theorem eX7_person_103 : Dc cX7_person 103 (.iload_n 1) 1 104 := ⟨by decide +kernel, rfl⟩
theorem eX7_person_104 : Dc cX7_person 104 (.bipush 127) 2 106 := ⟨by decide +kernel, rfl⟩
theorem eX7_person_106 : Dc cX7_person 106 (.iastore) 1 107 := ⟨by decide +kernel, rfl⟩
theorem eX7_person_107 : Dc cX7_person 107 (.aload_n 0) 1 108 := ⟨by decide +kernel, rfl⟩
theorem eX7_person_108 : Dc cX7_person 108 (.dup) 1 109 := ⟨by decide +kernel, rfl⟩
theorem eX7_person_109 : Dc cX7_person 109 (.getfield 88) 3 112 := ⟨by decide +kernel, rfl⟩
theorem eX7_person_112 : Dc cX7_person 112 (.iconst 1) 1 113 := ⟨by decide +kernel, rfl⟩
theorem eX7_person_113 : Dc cX7_person 113 (.iload_n 1) 1 114 := ⟨by decide +kernel, rfl⟩
theorem eX7_person_114 : Dc cX7_person 114 (.ishl) 1 115 := ⟨by decide +kernel, rfl⟩
theorem eX7_person_115 : Dc cX7_person 115 (.ior) 1 116 := ⟨by decide +kernel, rfl⟩
theorem eX7_person_116 : Dc cX7_person 116 (.putfield 88) 3 119 := ⟨by decide +kernel, rfl⟩
theorem eX7_person_119 : Dc cX7_person 119 (.aload_n 0) 1 120 := ⟨by decide +kernel, rfl⟩
theorem eX7_person_120 : Dc cX7_person 120 (.getfield 88) 3 123 := ⟨by decide +kernel, rfl⟩
theorem eX7_person_123 : Dc cX7_person 123 (.invokestatic 122) 3 126 := ⟨by decide +kernel, rfl⟩
theorem eX7_person_126 : Dc cX7_person 126 (.ireturn) 1 127 := ⟨by decide +kernel, rfl⟩
def fX7_person (c : SS) (p1 : Int32) (p2 : Int32) (p3 : Int32) (p4 : Int32) (p5 : Int32) (p6 : Int32) : Option (Int32 × SS) := if (fX7_in (p1).toInt64 (0 : Int64) (7 : Int64)) = (0 : Int32) then some ((-1 : Int32), c) else if (fX7_isStop c p2) = (0 : Int32) then some ((-1 : Int32), c) else if (fX7_in (p3).toInt64 (0 : Int64) (99 : Int64)) = (0 : Int32) then some ((-2 : Int32), c) else if (fX7_isGood p4) = (0 : Int32) then some ((-2 : Int32), c) else if (fX7_isGood p5) = (0 : Int32) then some ((-2 : Int32), c) else if (fX7_isGood p6) = (0 : Int32) then some ((-2 : Int32), c) else ckb 8 p1 (ckb 8 p1 (ckb 8 p1 (ckb 8 p1 (ckb 8 p1 (ckb 8 p1 (Option.bind (fX7_ones ((c.1 3) ||| ((1 : Int32) <<< (p1 &&& 31)))) (fun q13 => some (q13, (sF (sA (sA (sA (sA (sA (sA c 4 (p1).toNatClampNeg p2) 5 (p1).toNatClampNeg p3) 6 (p1).toNatClampNeg p4) 7 (p1).toNatClampNeg p5) 8 (p1).toNatClampNeg p6) 9 (p1).toNatClampNeg (127 : Int32)) 3 ((c.1 3) ||| ((1 : Int32) <<< (p1 &&& 31))))))))))))
set_option maxRecDepth 20000 in
theorem ctX7_person (l : Launch) (G : tg_G) (A : Nat → Nat) (c : SS) (p1 : Int32) (p2 : Int32) (p3 : Int32) (p4 : Int32) (p5 : Int32) (p6 : Int32) {z : Int32 × SS} (h : fX7_person c p1 p2 p3 p4 p5 p6 = some z) : Mt l G yX7_person cX7_person 7 (some .int) (tg_R 2 46) [.ref (A 0), .int p1, .int p2, .int p3, .int p4, .int p5, .int p6] (wM G A c) (fun v w1 => v = some (.int z.1) ∧ w1 = wM G A z.2) := by
  refine Mt_of2 (own := "TramGodModel") (nm := "person") rfl rfl rfl (Nat.le_of_ble_eq_true rfl) (lv := [(0, .ref (A 0)), (1, .int p1), (2, .int p2), (3, .int p3), (4, .int p4), (5, .int p5), (6, .int p6)]) rfl ?_
  unfold fX7_person at h
  refine V_iload_n eX7_person_0 1 rfl ?_
  refine V_i2l eX7_person_1 ?_
  refine V_lconst (v := (0 : Int64)) eX7_person_2 rfl ?_
  refine V_ldc2 eX7_person_3 tw_779 ?_
  refine V_callSi (rest := []) eX7_person_6 (ctX7_in l G _ (p1).toInt64 (0 : Int64) (7 : Int64) rfl) tc_748 tw_746 tw_8 tw_747 hdX7_in rfl ⟨Nat.le_of_ble_eq_true rfl, Nat.le_of_ble_eq_true rfl⟩ rfl (Nat.le_of_ble_eq_true rfl) ⟨Nat.zero_le _, Nat.zero_le _⟩ ?_
  refine V_if_eq (tgt := 20) eX7_person_9 rfl (fun hb1 => ?_) (fun hb1 => ?_)
  · replace h := (if_pos hb1).symm.trans h
    refine V_iconst (v := (-1 : Int32)) eX7_person_20 rfl ?_
    obtain rfl := Option.some.inj h
    exact V_ret eX7_person_21 rfl ⟨rfl, rfl⟩
  · replace h := (if_neg hb1).symm.trans h
    refine V_aload_n eX7_person_12 0 rfl ?_
    refine V_iload_n eX7_person_13 2 rfl ?_
    refine V_callVi (rest := []) eX7_person_14 (ctX7_isStop l G A c p2 rfl) tc_774 tw_771 tw_8 tw_773 ts_21 0 rfl rfl hdX7_isStop rfl ⟨Nat.le_of_ble_eq_true rfl, Nat.le_of_ble_eq_true rfl⟩ rfl (Nat.le_of_ble_eq_true rfl) ⟨Nat.zero_le _, Nat.zero_le _⟩ ?_
    refine V_if_ne (tgt := 22) eX7_person_17 rfl (fun hb2 => ?_) (fun hb2 => ?_)
    · replace h := (if_neg hb2).symm.trans h
      refine V_iload_n eX7_person_22 3 rfl ?_
      refine V_i2l eX7_person_23 ?_
      refine V_lconst (v := (0 : Int64)) eX7_person_24 rfl ?_
      refine V_ldc2 eX7_person_25 tw_780 ?_
      refine V_callSi (rest := []) eX7_person_28 (ctX7_in l G _ (p3).toInt64 (0 : Int64) (99 : Int64) rfl) tc_748 tw_746 tw_8 tw_747 hdX7_in rfl ⟨Nat.le_of_ble_eq_true rfl, Nat.le_of_ble_eq_true rfl⟩ rfl (Nat.le_of_ble_eq_true rfl) ⟨Nat.zero_le _, Nat.zero_le _⟩ ?_
      refine V_if_eq (tgt := 58) eX7_person_31 rfl (fun hb3 => ?_) (fun hb3 => ?_)
      · replace h := (if_pos hb3).symm.trans h
        refine V_bipush (v := (-2 : Int32)) eX7_person_58 rfl ?_
        obtain rfl := Option.some.inj h
        exact V_ret eX7_person_60 rfl ⟨rfl, rfl⟩
      · replace h := (if_neg hb3).symm.trans h
        refine V_iload eX7_person_34 4 rfl ?_
        refine V_callSi (rest := []) eX7_person_36 (ctX7_isGood l G _ p4 rfl) tc_783 tw_781 tw_8 tw_782 hdX7_isGood rfl ⟨Nat.le_of_ble_eq_true rfl, Nat.le_of_ble_eq_true rfl⟩ rfl (Nat.le_of_ble_eq_true rfl) ⟨Nat.zero_le _, Nat.zero_le _⟩ ?_
        refine V_if_eq (tgt := 58) eX7_person_39 rfl (fun hb4 => ?_) (fun hb4 => ?_)
        · replace h := (if_pos hb4).symm.trans h
          refine V_bipush (v := (-2 : Int32)) eX7_person_58 rfl ?_
          obtain rfl := Option.some.inj h
          exact V_ret eX7_person_60 rfl ⟨rfl, rfl⟩
        · replace h := (if_neg hb4).symm.trans h
          refine V_iload eX7_person_42 5 rfl ?_
          refine V_callSi (rest := []) eX7_person_44 (ctX7_isGood l G _ p5 rfl) tc_783 tw_781 tw_8 tw_782 hdX7_isGood rfl ⟨Nat.le_of_ble_eq_true rfl, Nat.le_of_ble_eq_true rfl⟩ rfl (Nat.le_of_ble_eq_true rfl) ⟨Nat.zero_le _, Nat.zero_le _⟩ ?_
          refine V_if_eq (tgt := 58) eX7_person_47 rfl (fun hb5 => ?_) (fun hb5 => ?_)
          · replace h := (if_pos hb5).symm.trans h
            refine V_bipush (v := (-2 : Int32)) eX7_person_58 rfl ?_
            obtain rfl := Option.some.inj h
            exact V_ret eX7_person_60 rfl ⟨rfl, rfl⟩
          · replace h := (if_neg hb5).symm.trans h
            refine V_iload eX7_person_50 6 rfl ?_
            refine V_callSi (rest := []) eX7_person_52 (ctX7_isGood l G _ p6 rfl) tc_783 tw_781 tw_8 tw_782 hdX7_isGood rfl ⟨Nat.le_of_ble_eq_true rfl, Nat.le_of_ble_eq_true rfl⟩ rfl (Nat.le_of_ble_eq_true rfl) ⟨Nat.zero_le _, Nat.zero_le _⟩ ?_
            refine V_if_ne (tgt := 61) eX7_person_55 rfl (fun hb6 => ?_) (fun hb6 => ?_)
            · replace h := (if_neg hb6).symm.trans h
              refine V_aload_n eX7_person_61 0 rfl ?_
              refine V_get (v := .ref (A 2)) eX7_person_62 inX7 0 rfl rfl 4 (Nat.le_of_ble_eq_true rfl) tw_649 rfl ?_
              refine V_iload_n eX7_person_65 1 rfl ?_
              refine V_iload_n eX7_person_66 2 rfl ?_
              obtain ⟨hi7, h⟩ := ckb_some h
              refine V_iast (w' := wM G A (sA c 4 (p1).toNatClampNeg p2)) eX7_person_67 2 rfl hi7 rfl ?_
              refine V_aload_n eX7_person_68 0 rfl ?_
              refine V_get (v := .ref (A 3)) eX7_person_69 inX7 0 rfl rfl 5 (Nat.le_of_ble_eq_true rfl) tw_650 rfl ?_
              refine V_iload_n eX7_person_72 1 rfl ?_
              refine V_iload_n eX7_person_73 3 rfl ?_
              obtain ⟨hi8, h⟩ := ckb_some h
              refine V_iast (w' := wM G A (sA (sA c 4 (p1).toNatClampNeg p2) 5 (p1).toNatClampNeg p3)) eX7_person_74 3 rfl hi8 rfl ?_
              refine V_aload_n eX7_person_75 0 rfl ?_
              refine V_get (v := .ref (A 4)) eX7_person_76 inX7 0 rfl rfl 6 (Nat.le_of_ble_eq_true rfl) tw_651 rfl ?_
              refine V_iload_n eX7_person_79 1 rfl ?_
              refine V_iload eX7_person_80 4 rfl ?_
              obtain ⟨hi9, h⟩ := ckb_some h
              refine V_iast (w' := wM G A (sA (sA (sA c 4 (p1).toNatClampNeg p2) 5 (p1).toNatClampNeg p3) 6 (p1).toNatClampNeg p4)) eX7_person_82 4 rfl hi9 rfl ?_
              refine V_aload_n eX7_person_83 0 rfl ?_
              refine V_get (v := .ref (A 5)) eX7_person_84 inX7 0 rfl rfl 7 (Nat.le_of_ble_eq_true rfl) tw_652 rfl ?_
              refine V_iload_n eX7_person_87 1 rfl ?_
              refine V_iload eX7_person_88 5 rfl ?_
              obtain ⟨hi10, h⟩ := ckb_some h
              refine V_iast (w' := wM G A (sA (sA (sA (sA c 4 (p1).toNatClampNeg p2) 5 (p1).toNatClampNeg p3) 6 (p1).toNatClampNeg p4) 7 (p1).toNatClampNeg p5)) eX7_person_90 5 rfl hi10 rfl ?_
              refine V_aload_n eX7_person_91 0 rfl ?_
              refine V_get (v := .ref (A 6)) eX7_person_92 inX7 0 rfl rfl 8 (Nat.le_of_ble_eq_true rfl) tw_653 rfl ?_
              refine V_iload_n eX7_person_95 1 rfl ?_
              refine V_iload eX7_person_96 6 rfl ?_
              obtain ⟨hi11, h⟩ := ckb_some h
              refine V_iast (w' := wM G A (sA (sA (sA (sA (sA c 4 (p1).toNatClampNeg p2) 5 (p1).toNatClampNeg p3) 6 (p1).toNatClampNeg p4) 7 (p1).toNatClampNeg p5) 8 (p1).toNatClampNeg p6)) eX7_person_98 6 rfl hi11 rfl ?_
              refine V_aload_n eX7_person_99 0 rfl ?_
              refine V_get (v := .ref (A 7)) eX7_person_100 inX7 0 rfl rfl 9 (Nat.le_of_ble_eq_true rfl) tw_654 rfl ?_
              refine V_iload_n eX7_person_103 1 rfl ?_
              refine V_bipush (v := (127 : Int32)) eX7_person_104 rfl ?_
              obtain ⟨hi12, h⟩ := ckb_some h
              refine V_iast (w' := wM G A (sA (sA (sA (sA (sA (sA c 4 (p1).toNatClampNeg p2) 5 (p1).toNatClampNeg p3) 6 (p1).toNatClampNeg p4) 7 (p1).toNatClampNeg p5) 8 (p1).toNatClampNeg p6) 9 (p1).toNatClampNeg (127 : Int32))) eX7_person_106 7 rfl hi12 rfl ?_
              refine V_aload_n eX7_person_107 0 rfl ?_
              refine V_dup eX7_person_108 rfl ?_
              refine V_get (v := .int (c.1 3)) eX7_person_109 inX7 0 rfl rfl 3 (Nat.le_of_ble_eq_true rfl) tw_648 rfl ?_
              refine V_iconst (v := (1 : Int32)) eX7_person_112 rfl ?_
              refine V_iload_n eX7_person_113 1 rfl ?_
              refine V_ishl eX7_person_114 ?_
              refine V_ior eX7_person_115 ?_
              refine V_put (w' := wM G A (sF (sA (sA (sA (sA (sA (sA c 4 (p1).toNatClampNeg p2) 5 (p1).toNatClampNeg p3) 6 (p1).toNatClampNeg p4) 7 (p1).toNatClampNeg p5) 8 (p1).toNatClampNeg p6) 9 (p1).toNatClampNeg (127 : Int32)) 3 ((c.1 3) ||| ((1 : Int32) <<< (p1 &&& 31))))) eX7_person_116 inX7 tyX7 tyX7_ok nmX7 0 rfl rfl 3 (Nat.le_of_ble_eq_true rfl) tw_648 rfl rfl rfl rfl (Nat.le_of_ble_eq_true rfl) rfl ?_
              refine V_aload_n eX7_person_119 0 rfl ?_
              refine V_get (v := .int ((c.1 3) ||| ((1 : Int32) <<< (p1 &&& 31)))) eX7_person_120 inX7 0 rfl rfl 3 (Nat.le_of_ble_eq_true rfl) tw_648 rfl ?_
              obtain ⟨q13, hc13, h⟩ := Option.bind_eq_some_iff.mp h
              refine V_callSi (rest := []) eX7_person_123 (ctX7_ones l G _ ((c.1 3) ||| ((1 : Int32) <<< (p1 &&& 31))) hc13) tc_788 tw_786 tw_8 tw_787 hdX7_ones rfl ⟨Nat.le_of_ble_eq_true rfl, Nat.le_of_ble_eq_true rfl⟩ rfl (Nat.le_of_ble_eq_true rfl) ⟨Nat.zero_le _, Nat.zero_le _⟩ ?_
              obtain rfl := Option.some.inj h
              exact V_ret eX7_person_126 rfl ⟨rfl, rfl⟩
            · replace h := (if_pos hb6).symm.trans h
              refine V_bipush (v := (-2 : Int32)) eX7_person_58 rfl ?_
              obtain rfl := Option.some.inj h
              exact V_ret eX7_person_60 rfl ⟨rfl, rfl⟩
    · replace h := (if_pos hb2).symm.trans h
      refine V_iconst (v := (-1 : Int32)) eX7_person_20 rfl ?_
      obtain rfl := Option.some.inj h
      exact V_ret eX7_person_21 rfl ⟨rfl, rfl⟩
theorem hdX7_isThere : yX7_isThere.cls ≠ "java/lang/invoke/MethodHandle" ∧ yX7_isThere.cls ≠ "java/lang/invoke/VarHandle" ∧ (parseMethodDescriptor yX7_isThere.desc).map (fun d => d.parameters.length) = some 1 := by decide +kernel
theorem eX7_isThere_0 : Dc cX7_isThere 0 (.iload_n 1) 1 1 := ⟨by decide +kernel, rfl⟩
theorem eX7_isThere_1 : Dc cX7_isThere 1 (.i2l) 1 2 := ⟨by decide +kernel, rfl⟩
theorem eX7_isThere_2 : Dc cX7_isThere 2 (.lconst 0) 1 3 := ⟨by decide +kernel, rfl⟩
theorem eX7_isThere_3 : Dc cX7_isThere 3 (.ldc2_w 86) 3 6 := ⟨by decide +kernel, rfl⟩
theorem eX7_isThere_6 : Dc cX7_isThere 6 (.invokestatic 79) 3 9 := ⟨by decide +kernel, rfl⟩
theorem eX7_isThere_9 : Dc cX7_isThere 9 (.ifCond .eq 19) 3 12 := ⟨by decide +kernel, rfl⟩
theorem eX7_isThere_12 : Dc cX7_isThere 12 (.aload_n 0) 1 13 := ⟨by decide +kernel, rfl⟩
theorem eX7_isThere_13 : Dc cX7_isThere 13 (.getfield 88) 3 16 := ⟨by decide +kernel, rfl⟩
theorem eX7_isThere_16 : Dc cX7_isThere 16 (.iload_n 1) 1 17 := ⟨by decide +kernel, rfl⟩
theorem eX7_isThere_17 : Dc cX7_isThere 17 (.ishr) 1 18 := ⟨by decide +kernel, rfl⟩
theorem eX7_isThere_18 : Dc cX7_isThere 18 (.iconst 1) 1 19 := ⟨by decide +kernel, rfl⟩
theorem eX7_isThere_19 : Dc cX7_isThere 19 (.iand) 1 20 := ⟨by decide +kernel, rfl⟩
theorem eX7_isThere_20 : Dc cX7_isThere 20 (.iconst 1) 1 21 := ⟨by decide +kernel, rfl⟩
theorem eX7_isThere_21 : Dc cX7_isThere 21 (.if_icmp .ne 7) 3 24 := ⟨by decide +kernel, rfl⟩
theorem eX7_isThere_24 : Dc cX7_isThere 24 (.iconst 1) 1 25 := ⟨by decide +kernel, rfl⟩
theorem eX7_isThere_25 : Dc cX7_isThere 25 (.goto 4) 3 28 := ⟨by decide +kernel, rfl⟩
theorem eX7_isThere_28 : Dc cX7_isThere 28 (.iconst 0) 1 29 := ⟨by decide +kernel, rfl⟩
theorem eX7_isThere_29 : Dc cX7_isThere 29 (.ireturn) 1 30 := ⟨by decide +kernel, rfl⟩
def fX7_isThere (c : SS) (p1 : Int32) : Int32 := if (fX7_in (p1).toInt64 (0 : Int64) (7 : Int64)) = (0 : Int32) then (0 : Int32) else if (((c.1 3) >>> (p1 &&& 31)) &&& (1 : Int32)) = (1 : Int32) then (1 : Int32) else (0 : Int32)
set_option maxRecDepth 20000 in
theorem ctX7_isThere (l : Launch) (G : tg_G) (A : Nat → Nat) (c : SS) (p1 : Int32) {z : Int32} (h : fX7_isThere c p1 = z) : Mt l G yX7_isThere cX7_isThere 2 (some .boolean) (tg_R 1 25) [.ref (A 0), .int p1] (wM G A c) (fun v w1 => v = some (.int z) ∧ w1 = wM G A c) := by
  refine Mt_of2 (own := "TramGodModel") (nm := "isThere") rfl rfl rfl (Nat.le_of_ble_eq_true rfl) (lv := [(0, .ref (A 0)), (1, .int p1)]) rfl ?_
  unfold fX7_isThere at h
  refine V_iload_n eX7_isThere_0 1 rfl ?_
  refine V_i2l eX7_isThere_1 ?_
  refine V_lconst (v := (0 : Int64)) eX7_isThere_2 rfl ?_
  refine V_ldc2 eX7_isThere_3 tw_779 ?_
  refine V_callSi (rest := []) eX7_isThere_6 (ctX7_in l G _ (p1).toInt64 (0 : Int64) (7 : Int64) rfl) tc_748 tw_746 tw_8 tw_747 hdX7_in rfl ⟨Nat.le_of_ble_eq_true rfl, Nat.le_of_ble_eq_true rfl⟩ rfl (Nat.le_of_ble_eq_true rfl) ⟨Nat.zero_le _, Nat.zero_le _⟩ ?_
  refine V_if_eq (tgt := 28) eX7_isThere_9 rfl (fun hb1 => ?_) (fun hb1 => ?_)
  · replace h := (if_pos hb1).symm.trans h
    refine V_iconst (v := (0 : Int32)) eX7_isThere_28 rfl ?_
    subst h
    exact V_zret eX7_isThere_29 rfl rfl ⟨rfl, rfl⟩
  · replace h := (if_neg hb1).symm.trans h
    refine V_aload_n eX7_isThere_12 0 rfl ?_
    refine V_get (v := .int (c.1 3)) eX7_isThere_13 inX7 0 rfl rfl 3 (Nat.le_of_ble_eq_true rfl) tw_648 rfl ?_
    refine V_iload_n eX7_isThere_16 1 rfl ?_
    refine V_ishr eX7_isThere_17 ?_
    refine V_iconst (v := (1 : Int32)) eX7_isThere_18 rfl ?_
    refine V_iand eX7_isThere_19 ?_
    refine V_iconst (v := (1 : Int32)) eX7_isThere_20 rfl ?_
    refine V_icmp_ne (tgt := 28) eX7_isThere_21 rfl (fun hb2 => ?_) (fun hb2 => ?_)
    · replace h := (if_neg hb2).symm.trans h
      refine V_iconst (v := (0 : Int32)) eX7_isThere_28 rfl ?_
      subst h
      exact V_zret eX7_isThere_29 rfl rfl ⟨rfl, rfl⟩
    · replace h := (if_pos hb2).symm.trans h
      refine V_iconst (v := (1 : Int32)) eX7_isThere_24 rfl ?_
      refine V_goto (tgt := 29) eX7_isThere_25 rfl ?_
      subst h
      exact V_zret eX7_isThere_29 rfl rfl ⟨rfl, rfl⟩
theorem bzX7_isThere (c : SS) (p1 : Int32) : narrow .boolean (.int (fX7_isThere c p1)) = .int (fX7_isThere c p1) := by
  unfold fX7_isThere
  repeat' split
  all_goals first | rfl | exact (bzX7_in (p1).toInt64 (0 : Int64) (7 : Int64))
theorem hdX7_leave : yX7_leave.cls ≠ "java/lang/invoke/MethodHandle" ∧ yX7_leave.cls ≠ "java/lang/invoke/VarHandle" ∧ (parseMethodDescriptor yX7_leave.desc).map (fun d => d.parameters.length) = some 1 := by decide +kernel
theorem eX7_leave_0 : Dc cX7_leave 0 (.aload_n 0) 1 1 := ⟨by decide +kernel, rfl⟩
theorem eX7_leave_1 : Dc cX7_leave 1 (.iload_n 1) 1 2 := ⟨by decide +kernel, rfl⟩
theorem eX7_leave_2 : Dc cX7_leave 2 (.invokevirtual 126) 3 5 := ⟨by decide +kernel, rfl⟩
theorem eX7_leave_5 : Dc cX7_leave 5 (.ifCond .ne 5) 3 8 := ⟨by decide +kernel, rfl⟩
theorem eX7_leave_8 : Dc cX7_leave 8 (.iconst (-1)) 1 9 := ⟨by decide +kernel, rfl⟩
theorem eX7_leave_9 : Dc cX7_leave 9 (.ireturn) 1 10 := ⟨by decide +kernel, rfl⟩
theorem eX7_leave_10 : Dc cX7_leave 10 (.aload_n 0) 1 11 := ⟨by decide +kernel, rfl⟩
theorem eX7_leave_11 : Dc cX7_leave 11 (.dup) 1 12 := ⟨by decide +kernel, rfl⟩
theorem eX7_leave_12 : Dc cX7_leave 12 (.getfield 88) 3 15 := ⟨by decide +kernel, rfl⟩
theorem eX7_leave_15 : Dc cX7_leave 15 (.iconst 1) 1 16 := ⟨by decide +kernel, rfl⟩
theorem eX7_leave_16 : Dc cX7_leave 16 (.iload_n 1) 1 17 := ⟨by decide +kernel, rfl⟩
theorem eX7_leave_17 : Dc cX7_leave 17 (.ishl) 1 18 := ⟨by decide +kernel, rfl⟩
theorem eX7_leave_18 : Dc cX7_leave 18 (.iconst (-1)) 1 19 := ⟨by decide +kernel, rfl⟩
theorem eX7_leave_19 : Dc cX7_leave 19 (.ixor) 1 20 := ⟨by decide +kernel, rfl⟩
theorem eX7_leave_20 : Dc cX7_leave 20 (.iand) 1 21 := ⟨by decide +kernel, rfl⟩
theorem eX7_leave_21 : Dc cX7_leave 21 (.putfield 88) 3 24 := ⟨by decide +kernel, rfl⟩
theorem eX7_leave_24 : Dc cX7_leave 24 (.aload_n 0) 1 25 := ⟨by decide +kernel, rfl⟩
theorem eX7_leave_25 : Dc cX7_leave 25 (.getfield 88) 3 28 := ⟨by decide +kernel, rfl⟩
theorem eX7_leave_28 : Dc cX7_leave 28 (.invokestatic 122) 3 31 := ⟨by decide +kernel, rfl⟩
theorem eX7_leave_31 : Dc cX7_leave 31 (.ireturn) 1 32 := ⟨by decide +kernel, rfl⟩
def fX7_leave (c : SS) (p1 : Int32) : Option (Int32 × SS) := if (fX7_isThere c p1) = (0 : Int32) then some ((-1 : Int32), c) else Option.bind (fX7_ones ((c.1 3) &&& (((1 : Int32) <<< (p1 &&& 31)) ^^^ (-1 : Int32)))) (fun q2 => some (q2, (sF c 3 ((c.1 3) &&& (((1 : Int32) <<< (p1 &&& 31)) ^^^ (-1 : Int32))))))
set_option maxRecDepth 20000 in
theorem ctX7_leave (l : Launch) (G : tg_G) (A : Nat → Nat) (c : SS) (p1 : Int32) {z : Int32 × SS} (h : fX7_leave c p1 = some z) : Mt l G yX7_leave cX7_leave 2 (some .int) (tg_R 2 46) [.ref (A 0), .int p1] (wM G A c) (fun v w1 => v = some (.int z.1) ∧ w1 = wM G A z.2) := by
  refine Mt_of2 (own := "TramGodModel") (nm := "leave") rfl rfl rfl (Nat.le_of_ble_eq_true rfl) (lv := [(0, .ref (A 0)), (1, .int p1)]) rfl ?_
  unfold fX7_leave at h
  refine V_aload_n eX7_leave_0 0 rfl ?_
  refine V_iload_n eX7_leave_1 1 rfl ?_
  refine V_callVi (rest := []) eX7_leave_2 (ctX7_isThere l G A c p1 rfl) tc_796 tw_793 tw_8 tw_795 ts_22 0 rfl rfl hdX7_isThere rfl ⟨Nat.le_of_ble_eq_true rfl, Nat.le_of_ble_eq_true rfl⟩ rfl (Nat.le_of_ble_eq_true rfl) ⟨Nat.zero_le _, Nat.zero_le _⟩ ?_
  refine V_if_ne (tgt := 10) eX7_leave_5 rfl (fun hb1 => ?_) (fun hb1 => ?_)
  · replace h := (if_neg hb1).symm.trans h
    refine V_aload_n eX7_leave_10 0 rfl ?_
    refine V_dup eX7_leave_11 rfl ?_
    refine V_get (v := .int (c.1 3)) eX7_leave_12 inX7 0 rfl rfl 3 (Nat.le_of_ble_eq_true rfl) tw_648 rfl ?_
    refine V_iconst (v := (1 : Int32)) eX7_leave_15 rfl ?_
    refine V_iload_n eX7_leave_16 1 rfl ?_
    refine V_ishl eX7_leave_17 ?_
    refine V_iconst (v := (-1 : Int32)) eX7_leave_18 rfl ?_
    refine V_ixor eX7_leave_19 ?_
    refine V_iand eX7_leave_20 ?_
    refine V_put (w' := wM G A (sF c 3 ((c.1 3) &&& (((1 : Int32) <<< (p1 &&& 31)) ^^^ (-1 : Int32))))) eX7_leave_21 inX7 tyX7 tyX7_ok nmX7 0 rfl rfl 3 (Nat.le_of_ble_eq_true rfl) tw_648 rfl rfl rfl rfl (Nat.le_of_ble_eq_true rfl) rfl ?_
    refine V_aload_n eX7_leave_24 0 rfl ?_
    refine V_get (v := .int ((c.1 3) &&& (((1 : Int32) <<< (p1 &&& 31)) ^^^ (-1 : Int32)))) eX7_leave_25 inX7 0 rfl rfl 3 (Nat.le_of_ble_eq_true rfl) tw_648 rfl ?_
    obtain ⟨q2, hc2, h⟩ := Option.bind_eq_some_iff.mp h
    refine V_callSi (rest := []) eX7_leave_28 (ctX7_ones l G _ ((c.1 3) &&& (((1 : Int32) <<< (p1 &&& 31)) ^^^ (-1 : Int32))) hc2) tc_788 tw_786 tw_8 tw_787 hdX7_ones rfl ⟨Nat.le_of_ble_eq_true rfl, Nat.le_of_ble_eq_true rfl⟩ rfl (Nat.le_of_ble_eq_true rfl) ⟨Nat.zero_le _, Nat.zero_le _⟩ ?_
    obtain rfl := Option.some.inj h
    exact V_ret eX7_leave_31 rfl ⟨rfl, rfl⟩
  · replace h := (if_pos hb1).symm.trans h
    refine V_iconst (v := (-1 : Int32)) eX7_leave_8 rfl ?_
    obtain rfl := Option.some.inj h
    exact V_ret eX7_leave_9 rfl ⟨rfl, rfl⟩
theorem hdX7_nights : yX7_nights.cls ≠ "java/lang/invoke/MethodHandle" ∧ yX7_nights.cls ≠ "java/lang/invoke/VarHandle" ∧ (parseMethodDescriptor yX7_nights.desc).map (fun d => d.parameters.length) = some 2 := by decide +kernel
theorem eX7_nights_0 : Dc cX7_nights 0 (.aload_n 0) 1 1 := ⟨by decide +kernel, rfl⟩
theorem eX7_nights_1 : Dc cX7_nights 1 (.iload_n 1) 1 2 := ⟨by decide +kernel, rfl⟩
theorem eX7_nights_2 : Dc cX7_nights 2 (.invokevirtual 126) 3 5 := ⟨by decide +kernel, rfl⟩
theorem eX7_nights_5 : Dc cX7_nights 5 (.ifCond .ne 5) 3 8 := ⟨by decide +kernel, rfl⟩
theorem eX7_nights_8 : Dc cX7_nights 8 (.iconst (-1)) 1 9 := ⟨by decide +kernel, rfl⟩
theorem eX7_nights_9 : Dc cX7_nights 9 (.ireturn) 1 10 := ⟨by decide +kernel, rfl⟩
theorem eX7_nights_10 : Dc cX7_nights 10 (.iload_n 2) 1 11 := ⟨by decide +kernel, rfl⟩
theorem eX7_nights_11 : Dc cX7_nights 11 (.i2l) 1 12 := ⟨by decide +kernel, rfl⟩
theorem eX7_nights_12 : Dc cX7_nights 12 (.lconst 0) 1 13 := ⟨by decide +kernel, rfl⟩
theorem eX7_nights_13 : Dc cX7_nights 13 (.ldc2_w 129) 3 16 := ⟨by decide +kernel, rfl⟩
theorem eX7_nights_16 : Dc cX7_nights 16 (.invokestatic 79) 3 19 := ⟨by decide +kernel, rfl⟩
theorem eX7_nights_19 : Dc cX7_nights 19 (.ifCond .ne 6) 3 22 := ⟨by decide +kernel, rfl⟩
theorem eX7_nights_22 : Dc cX7_nights 22 (.bipush (-2)) 2 24 := ⟨by decide +kernel, rfl⟩
theorem eX7_nights_24 : Dc cX7_nights 24 (.ireturn) 1 25 := ⟨by decide +kernel, rfl⟩
theorem eX7_nights_25 : Dc cX7_nights 25 (.aload_n 0) 1 26 := ⟨by decide +kernel, rfl⟩
theorem eX7_nights_26 : Dc cX7_nights 26 (.getfield 28) 3 29 := ⟨by decide +kernel, rfl⟩
theorem eX7_nights_29 : Dc cX7_nights 29 (.iload_n 1) 1 30 := ⟨by decide +kernel, rfl⟩
theorem eX7_nights_30 : Dc cX7_nights 30 (.iload_n 2) 1 31 := ⟨by decide +kernel, rfl⟩
theorem eX7_nights_31 : Dc cX7_nights 31 (.iastore) 1 32 := ⟨by decide +kernel, rfl⟩
theorem eX7_nights_32 : Dc cX7_nights 32 (.iconst 1) 1 33 := ⟨by decide +kernel, rfl⟩
theorem eX7_nights_33 : Dc cX7_nights 33 (.ireturn) 1 34 := ⟨by decide +kernel, rfl⟩
def fX7_nights (c : SS) (p1 : Int32) (p2 : Int32) : Option (Int32 × SS) := if (fX7_isThere c p1) = (0 : Int32) then some ((-1 : Int32), c) else if (fX7_in (p2).toInt64 (0 : Int64) (127 : Int64)) = (0 : Int32) then some ((-2 : Int32), c) else ckb 8 p1 (some ((1 : Int32), (sA c 9 (p1).toNatClampNeg p2)))
set_option maxRecDepth 20000 in
theorem ctX7_nights (l : Launch) (G : tg_G) (A : Nat → Nat) (c : SS) (p1 : Int32) (p2 : Int32) {z : Int32 × SS} (h : fX7_nights c p1 p2 = some z) : Mt l G yX7_nights cX7_nights 3 (some .int) (tg_R 2 46) [.ref (A 0), .int p1, .int p2] (wM G A c) (fun v w1 => v = some (.int z.1) ∧ w1 = wM G A z.2) := by
  refine Mt_of2 (own := "TramGodModel") (nm := "nights") rfl rfl rfl (Nat.le_of_ble_eq_true rfl) (lv := [(0, .ref (A 0)), (1, .int p1), (2, .int p2)]) rfl ?_
  unfold fX7_nights at h
  refine V_aload_n eX7_nights_0 0 rfl ?_
  refine V_iload_n eX7_nights_1 1 rfl ?_
  refine V_callVi (rest := []) eX7_nights_2 (ctX7_isThere l G A c p1 rfl) tc_796 tw_793 tw_8 tw_795 ts_22 0 rfl rfl hdX7_isThere rfl ⟨Nat.le_of_ble_eq_true rfl, Nat.le_of_ble_eq_true rfl⟩ rfl (Nat.le_of_ble_eq_true rfl) ⟨Nat.zero_le _, Nat.zero_le _⟩ ?_
  refine V_if_ne (tgt := 10) eX7_nights_5 rfl (fun hb1 => ?_) (fun hb1 => ?_)
  · replace h := (if_neg hb1).symm.trans h
    refine V_iload_n eX7_nights_10 2 rfl ?_
    refine V_i2l eX7_nights_11 ?_
    refine V_lconst (v := (0 : Int64)) eX7_nights_12 rfl ?_
    refine V_ldc2 eX7_nights_13 tw_801 ?_
    refine V_callSi (rest := []) eX7_nights_16 (ctX7_in l G _ (p2).toInt64 (0 : Int64) (127 : Int64) rfl) tc_748 tw_746 tw_8 tw_747 hdX7_in rfl ⟨Nat.le_of_ble_eq_true rfl, Nat.le_of_ble_eq_true rfl⟩ rfl (Nat.le_of_ble_eq_true rfl) ⟨Nat.zero_le _, Nat.zero_le _⟩ ?_
    refine V_if_ne (tgt := 25) eX7_nights_19 rfl (fun hb2 => ?_) (fun hb2 => ?_)
    · replace h := (if_neg hb2).symm.trans h
      refine V_aload_n eX7_nights_25 0 rfl ?_
      refine V_get (v := .ref (A 7)) eX7_nights_26 inX7 0 rfl rfl 9 (Nat.le_of_ble_eq_true rfl) tw_654 rfl ?_
      refine V_iload_n eX7_nights_29 1 rfl ?_
      refine V_iload_n eX7_nights_30 2 rfl ?_
      obtain ⟨hi3, h⟩ := ckb_some h
      refine V_iast (w' := wM G A (sA c 9 (p1).toNatClampNeg p2)) eX7_nights_31 7 rfl hi3 rfl ?_
      refine V_iconst (v := (1 : Int32)) eX7_nights_32 rfl ?_
      obtain rfl := Option.some.inj h
      exact V_ret eX7_nights_33 rfl ⟨rfl, rfl⟩
    · replace h := (if_pos hb2).symm.trans h
      refine V_bipush (v := (-2 : Int32)) eX7_nights_22 rfl ?_
      obtain rfl := Option.some.inj h
      exact V_ret eX7_nights_24 rfl ⟨rfl, rfl⟩
  · replace h := (if_pos hb1).symm.trans h
    refine V_iconst (v := (-1 : Int32)) eX7_nights_8 rfl ?_
    obtain rfl := Option.some.inj h
    exact V_ret eX7_nights_9 rfl ⟨rfl, rfl⟩
theorem hdX7_set : yX7_set.cls ≠ "java/lang/invoke/MethodHandle" ∧ yX7_set.cls ≠ "java/lang/invoke/VarHandle" ∧ (parseMethodDescriptor yX7_set.desc).map (fun d => d.parameters.length) = some 2 := by decide +kernel
theorem eX7_set_0 : Dc cX7_set 0 (.iload_n 1) 1 1 := ⟨by decide +kernel, rfl⟩
theorem eX7_set_1 : Dc cX7_set 1 (.i2l) 1 2 := ⟨by decide +kernel, rfl⟩
theorem eX7_set_2 : Dc cX7_set 2 (.lconst 0) 1 3 := ⟨by decide +kernel, rfl⟩
theorem eX7_set_3 : Dc cX7_set 3 (.lconst 1) 1 4 := ⟨by decide +kernel, rfl⟩
theorem eX7_set_4 : Dc cX7_set 4 (.invokestatic 79) 3 7 := ⟨by decide +kernel, rfl⟩
theorem eX7_set_7 : Dc cX7_set 7 (.ifCond .eq 15) 3 10 := ⟨by decide +kernel, rfl⟩
theorem eX7_set_10 : Dc cX7_set 10 (.iload_n 2) 1 11 := ⟨by decide +kernel, rfl⟩
theorem eX7_set_11 : Dc cX7_set 11 (.i2l) 1 12 := ⟨by decide +kernel, rfl⟩
theorem eX7_set_12 : Dc cX7_set 12 (.lconst 0) 1 13 := ⟨by decide +kernel, rfl⟩
theorem eX7_set_13 : Dc cX7_set 13 (.ldc2_w 115) 3 16 := ⟨by decide +kernel, rfl⟩
theorem eX7_set_16 : Dc cX7_set 16 (.invokestatic 79) 3 19 := ⟨by decide +kernel, rfl⟩
theorem eX7_set_19 : Dc cX7_set 19 (.ifCond .ne 6) 3 22 := ⟨by decide +kernel, rfl⟩
theorem eX7_set_22 : Dc cX7_set 22 (.bipush (-2)) 2 24 := ⟨by decide +kernel, rfl⟩
theorem eX7_set_24 : Dc cX7_set 24 (.ireturn) 1 25 := ⟨by decide +kernel, rfl⟩
theorem eX7_set_25 : Dc cX7_set 25 (.iload_n 1) 1 26 := ⟨by decide +kernel, rfl⟩
theorem eX7_set_26 : Dc cX7_set 26 (.ifCond .ne 10) 3 29 := ⟨by decide +kernel, rfl⟩
theorem eX7_set_29 : Dc cX7_set 29 (.aload_n 0) 1 30 := ⟨by decide +kernel, rfl⟩
theorem eX7_set_30 : Dc cX7_set 30 (.getfield 73) 3 33 := ⟨by decide +kernel, rfl⟩
theorem eX7_set_33 : Dc cX7_set 33 (.goto 7) 3 36 := ⟨by decide +kernel, rfl⟩
theorem eX7_set_36 : Dc cX7_set 36 (.aload_n 0) 1 37 := ⟨by decide +kernel, rfl⟩
theorem eX7_set_37 : Dc cX7_set 37 (.getfield 76) 3 40 := ⟨by decide +kernel, rfl⟩
theorem eX7_set_40 : Dc cX7_set 40 (.istore_n 3) 1 41 := ⟨by decide +kernel, rfl⟩
theorem eX7_set_41 : Dc cX7_set 41 (.aload_n 0) 1 42 := ⟨by decide +kernel, rfl⟩
theorem eX7_set_42 : Dc cX7_set 42 (.iload_n 1) 1 43 := ⟨by decide +kernel, rfl⟩
theorem eX7_set_43 : Dc cX7_set 43 (.ifCond .ne 7) 3 46 := ⟨by decide +kernel, rfl⟩
theorem eX7_set_46 : Dc cX7_set 46 (.iload_n 2) 1 47 := ⟨by decide +kernel, rfl⟩
theorem eX7_set_47 : Dc cX7_set 47 (.goto 7) 3 50 := ⟨by decide +kernel, rfl⟩
theorem eX7_set_50 : Dc cX7_set 50 (.aload_n 0) 1 51 := ⟨by decide +kernel, rfl⟩
theorem eX7_set_51 : Dc cX7_set 51 (.getfield 73) 3 54 := ⟨by decide +kernel, rfl⟩
theorem eX7_set_54 : Dc cX7_set 54 (.putfield 73) 3 57 := ⟨by decide +kernel, rfl⟩
theorem eX7_set_57 : Dc cX7_set 57 (.aload_n 0) 1 58 := ⟨by decide +kernel, rfl⟩
theorem eX7_set_58 : Dc cX7_set 58 (.iload_n 1) 1 59 := ⟨by decide +kernel, rfl⟩
theorem eX7_set_59 : Dc cX7_set 59 (.iconst 1) 1 60 := ⟨by decide +kernel, rfl⟩
theorem eX7_set_60 : Dc cX7_set 60 (.if_icmp .ne 7) 3 63 := ⟨by decide +kernel, rfl⟩
theorem eX7_set_63 : Dc cX7_set 63 (.iload_n 2) 1 64 := ⟨by decide +kernel, rfl⟩
theorem eX7_set_64 : Dc cX7_set 64 (.goto 7) 3 67 := ⟨by decide +kernel, rfl⟩
theorem eX7_set_67 : Dc cX7_set 67 (.aload_n 0) 1 68 := ⟨by decide +kernel, rfl⟩
theorem eX7_set_68 : Dc cX7_set 68 (.getfield 76) 3 71 := ⟨by decide +kernel, rfl⟩
theorem eX7_set_71 : Dc cX7_set 71 (.putfield 76) 3 74 := ⟨by decide +kernel, rfl⟩
theorem eX7_set_74 : Dc cX7_set 74 (.iload_n 3) 1 75 := ⟨by decide +kernel, rfl⟩
theorem eX7_set_75 : Dc cX7_set 75 (.ireturn) 1 76 := ⟨by decide +kernel, rfl⟩
def fX7_set (c : SS) (p1 : Int32) (p2 : Int32) : Int32 × SS := if (fX7_in (p1).toInt64 (0 : Int64) (1 : Int64)) = (0 : Int32) then ((-2 : Int32), c) else if (fX7_in (p2).toInt64 (0 : Int64) (9 : Int64)) = (0 : Int32) then ((-2 : Int32), c) else jn (fun (x3 : Int32) => jn (fun (x4 : Int32) => jn (fun (x5 : Int32) => (x3, (sF (sF c 10 x4) 11 x5))) (fun j71 => if p1 = (1 : Int32) then j71 p2 else j71 (c.1 11))) (fun j54 => if p1 = (0 : Int32) then j54 p2 else j54 (c.1 10))) (fun j40 => if p1 = (0 : Int32) then j40 (c.1 10) else j40 (c.1 11))
set_option maxRecDepth 20000 in
theorem ctX7_set (l : Launch) (G : tg_G) (A : Nat → Nat) (c : SS) (p1 : Int32) (p2 : Int32) {z : Int32 × SS} (h : fX7_set c p1 p2 = z) : Mt l G yX7_set cX7_set 4 (some .int) (tg_R 1 25) [.ref (A 0), .int p1, .int p2] (wM G A c) (fun v w1 => v = some (.int z.1) ∧ w1 = wM G A z.2) := by
  refine Mt_of2 (own := "TramGodModel") (nm := "set") rfl rfl rfl (Nat.le_of_ble_eq_true rfl) (lv := [(0, .ref (A 0)), (1, .int p1), (2, .int p2)]) rfl ?_
  unfold fX7_set at h
  refine V_iload_n eX7_set_0 1 rfl ?_
  refine V_i2l eX7_set_1 ?_
  refine V_lconst (v := (0 : Int64)) eX7_set_2 rfl ?_
  refine V_lconst (v := (1 : Int64)) eX7_set_3 rfl ?_
  refine V_callSi (rest := []) eX7_set_4 (ctX7_in l G _ (p1).toInt64 (0 : Int64) (1 : Int64) rfl) tc_748 tw_746 tw_8 tw_747 hdX7_in rfl ⟨Nat.le_of_ble_eq_true rfl, Nat.le_of_ble_eq_true rfl⟩ rfl (Nat.le_of_ble_eq_true rfl) ⟨Nat.zero_le _, Nat.zero_le _⟩ ?_
  refine V_if_eq (tgt := 22) eX7_set_7 rfl (fun hb1 => ?_) (fun hb1 => ?_)
  · replace h := (if_pos hb1).symm.trans h
    refine V_bipush (v := (-2 : Int32)) eX7_set_22 rfl ?_
    subst h
    exact V_ret eX7_set_24 rfl ⟨rfl, rfl⟩
  · replace h := (if_neg hb1).symm.trans h
    refine V_iload_n eX7_set_10 2 rfl ?_
    refine V_i2l eX7_set_11 ?_
    refine V_lconst (v := (0 : Int64)) eX7_set_12 rfl ?_
    refine V_ldc2 eX7_set_13 tw_785 ?_
    refine V_callSi (rest := []) eX7_set_16 (ctX7_in l G _ (p2).toInt64 (0 : Int64) (9 : Int64) rfl) tc_748 tw_746 tw_8 tw_747 hdX7_in rfl ⟨Nat.le_of_ble_eq_true rfl, Nat.le_of_ble_eq_true rfl⟩ rfl (Nat.le_of_ble_eq_true rfl) ⟨Nat.zero_le _, Nat.zero_le _⟩ ?_
    refine V_if_ne (tgt := 25) eX7_set_19 rfl (fun hb2 => ?_) (fun hb2 => ?_)
    · replace h := (if_neg hb2).symm.trans h
      refine V_iload_n eX7_set_25 1 rfl ?_
      refine jn_elim h (fun j => ∀ (x3 : Int32), j x3 = z → V l G (tg_Zm G (fun v w1 => v = some (.int z.1) ∧ w1 = wM G A z.2) 0 0) tg_E0 (tg_R 1 25) "TramGodModel" "set" cX7_set 4 (some .int) 40 [(0, .ref (A 0)), (1, .int p1), (2, .int p2)] [.int x3] (wM G A c) 0 0) ?_ (fun j40 hj40 h => ?_)
      · intro x3 h
        refine V_istore_n (lv' := [(3, .int x3), (0, .ref (A 0)), (1, .int p1), (2, .int p2)]) eX7_set_40 (Nat.le_of_ble_eq_true rfl) rfl ?_
        refine V_aload_n eX7_set_41 1 rfl ?_
        refine V_iload_n eX7_set_42 2 rfl ?_
        refine jn_elim h (fun j => ∀ (x4 : Int32), j x4 = z → V l G (tg_Zm G (fun v w1 => v = some (.int z.1) ∧ w1 = wM G A z.2) 0 0) tg_E0 (tg_R 1 25) "TramGodModel" "set" cX7_set 4 (some .int) 54 [(0, .ref (A 0)), (1, .int p1), (2, .int p2), (3, .int x3)] [.int x4, .ref (A 0)] (wM G A c) 0 0) ?_ (fun j54 hj54 h => ?_)
        · intro x4 h
          refine V_put (w' := wM G A (sF c 10 x4)) eX7_set_54 inX7 tyX7 tyX7_ok nmX7 0 rfl rfl 10 (Nat.le_of_ble_eq_true rfl) tw_655 rfl rfl rfl rfl (Nat.le_of_ble_eq_true rfl) rfl ?_
          refine V_aload_n eX7_set_57 0 rfl ?_
          refine V_iload_n eX7_set_58 1 rfl ?_
          refine V_iconst (v := (1 : Int32)) eX7_set_59 rfl ?_
          refine jn_elim h (fun j => ∀ (x5 : Int32), j x5 = z → V l G (tg_Zm G (fun v w1 => v = some (.int z.1) ∧ w1 = wM G A z.2) 0 0) tg_E0 (tg_R 1 25) "TramGodModel" "set" cX7_set 4 (some .int) 71 [(3, .int x3)] [.int x5, .ref (A 0)] (wM G A (sF c 10 x4)) 0 0) ?_ (fun j71 hj71 h => ?_)
          · intro x5 h
            refine V_put (w' := wM G A (sF (sF c 10 x4) 11 x5)) eX7_set_71 inX7 tyX7 tyX7_ok nmX7 0 rfl rfl 11 (Nat.le_of_ble_eq_true rfl) tw_656 rfl rfl rfl rfl (Nat.le_of_ble_eq_true rfl) rfl ?_
            refine V_iload_n eX7_set_74 0 rfl ?_
            subst h
            exact V_ret eX7_set_75 rfl ⟨rfl, rfl⟩
          refine V_icmp_ne (tgt := 67) eX7_set_60 rfl (fun hb6 => ?_) (fun hb6 => ?_)
          · replace h := (if_neg hb6).symm.trans h
            refine V_aload_n eX7_set_67 0 rfl ?_
            refine V_get (v := .int (c.1 11)) eX7_set_68 inX7 0 rfl rfl 11 (Nat.le_of_ble_eq_true rfl) tw_656 rfl ?_
            refine V_lv (lv' := [(3, .int x3)]) [3] rfl ?_
            exact hj71 (c.1 11) h
          · replace h := (if_pos hb6).symm.trans h
            refine V_iload_n eX7_set_63 2 rfl ?_
            refine V_goto (tgt := 71) eX7_set_64 rfl ?_
            refine V_lv (lv' := [(3, .int x3)]) [3] rfl ?_
            exact hj71 p2 h
        refine V_if_ne (tgt := 50) eX7_set_43 rfl (fun hb7 => ?_) (fun hb7 => ?_)
        · replace h := (if_neg hb7).symm.trans h
          refine V_aload_n eX7_set_50 1 rfl ?_
          refine V_get (v := .int (c.1 10)) eX7_set_51 inX7 0 rfl rfl 10 (Nat.le_of_ble_eq_true rfl) tw_655 rfl ?_
          refine V_lv (lv' := [(0, .ref (A 0)), (1, .int p1), (2, .int p2), (3, .int x3)]) [1, 2, 3, 0] rfl ?_
          exact hj54 (c.1 10) h
        · replace h := (if_pos hb7).symm.trans h
          refine V_iload_n eX7_set_46 3 rfl ?_
          refine V_goto (tgt := 54) eX7_set_47 rfl ?_
          refine V_lv (lv' := [(0, .ref (A 0)), (1, .int p1), (2, .int p2), (3, .int x3)]) [1, 2, 3, 0] rfl ?_
          exact hj54 p2 h
      refine V_if_ne (tgt := 36) eX7_set_26 rfl (fun hb8 => ?_) (fun hb8 => ?_)
      · replace h := (if_neg hb8).symm.trans h
        refine V_aload_n eX7_set_36 0 rfl ?_
        refine V_get (v := .int (c.1 11)) eX7_set_37 inX7 0 rfl rfl 11 (Nat.le_of_ble_eq_true rfl) tw_656 rfl ?_
        exact hj40 (c.1 11) h
      · replace h := (if_pos hb8).symm.trans h
        refine V_aload_n eX7_set_29 0 rfl ?_
        refine V_get (v := .int (c.1 10)) eX7_set_30 inX7 0 rfl rfl 10 (Nat.le_of_ble_eq_true rfl) tw_655 rfl ?_
        refine V_goto (tgt := 40) eX7_set_33 rfl ?_
        exact hj40 (c.1 10) h
    · replace h := (if_pos hb2).symm.trans h
      refine V_bipush (v := (-2 : Int32)) eX7_set_22 rfl ?_
      subst h
      exact V_ret eX7_set_24 rfl ⟨rfl, rfl⟩
theorem hdX7_isOpen : yX7_isOpen.cls ≠ "java/lang/invoke/MethodHandle" ∧ yX7_isOpen.cls ≠ "java/lang/invoke/VarHandle" ∧ (parseMethodDescriptor yX7_isOpen.desc).map (fun d => d.parameters.length) = some 1 := by decide +kernel
theorem eX7_isOpen_0 : Dc cX7_isOpen 0 (.aload_n 0) 1 1 := ⟨by decide +kernel, rfl⟩
theorem eX7_isOpen_1 : Dc cX7_isOpen 1 (.getfield 83) 3 4 := ⟨by decide +kernel, rfl⟩
theorem eX7_isOpen_4 : Dc cX7_isOpen 4 (.iload_n 1) 1 5 := ⟨by decide +kernel, rfl⟩
theorem eX7_isOpen_5 : Dc cX7_isOpen 5 (.ishr) 1 6 := ⟨by decide +kernel, rfl⟩
theorem eX7_isOpen_6 : Dc cX7_isOpen 6 (.iconst 1) 1 7 := ⟨by decide +kernel, rfl⟩
theorem eX7_isOpen_7 : Dc cX7_isOpen 7 (.iand) 1 8 := ⟨by decide +kernel, rfl⟩
theorem eX7_isOpen_8 : Dc cX7_isOpen 8 (.ifCond .ne 7) 3 11 := ⟨by decide +kernel, rfl⟩
theorem eX7_isOpen_11 : Dc cX7_isOpen 11 (.iconst 1) 1 12 := ⟨by decide +kernel, rfl⟩
theorem eX7_isOpen_12 : Dc cX7_isOpen 12 (.goto 4) 3 15 := ⟨by decide +kernel, rfl⟩
theorem eX7_isOpen_15 : Dc cX7_isOpen 15 (.iconst 0) 1 16 := ⟨by decide +kernel, rfl⟩
theorem eX7_isOpen_16 : Dc cX7_isOpen 16 (.ireturn) 1 17 := ⟨by decide +kernel, rfl⟩
def fX7_isOpen (c : SS) (p1 : Int32) : Int32 := if (((c.1 2) >>> (p1 &&& 31)) &&& (1 : Int32)) = (0 : Int32) then (1 : Int32) else (0 : Int32)
set_option maxRecDepth 20000 in
theorem ctX7_isOpen (l : Launch) (G : tg_G) (A : Nat → Nat) (c : SS) (p1 : Int32) {z : Int32} (h : fX7_isOpen c p1 = z) : Mt l G yX7_isOpen cX7_isOpen 2 (some .boolean) (tg_R 0 0) [.ref (A 0), .int p1] (wM G A c) (fun v w1 => v = some (.int z) ∧ w1 = wM G A c) := by
  refine Mt_of2 (own := "TramGodModel") (nm := "isOpen") rfl rfl rfl (Nat.le_of_ble_eq_true rfl) (lv := [(0, .ref (A 0)), (1, .int p1)]) rfl ?_
  unfold fX7_isOpen at h
  refine V_aload_n eX7_isOpen_0 0 rfl ?_
  refine V_get (v := .int (c.1 2)) eX7_isOpen_1 inX7 0 rfl rfl 2 (Nat.le_of_ble_eq_true rfl) tw_647 rfl ?_
  refine V_iload_n eX7_isOpen_4 1 rfl ?_
  refine V_ishr eX7_isOpen_5 ?_
  refine V_iconst (v := (1 : Int32)) eX7_isOpen_6 rfl ?_
  refine V_iand eX7_isOpen_7 ?_
  refine V_if_ne (tgt := 15) eX7_isOpen_8 rfl (fun hb1 => ?_) (fun hb1 => ?_)
  · replace h := (if_neg hb1).symm.trans h
    refine V_iconst (v := (0 : Int32)) eX7_isOpen_15 rfl ?_
    subst h
    exact V_zret eX7_isOpen_16 rfl rfl ⟨rfl, rfl⟩
  · replace h := (if_pos hb1).symm.trans h
    refine V_iconst (v := (1 : Int32)) eX7_isOpen_11 rfl ?_
    refine V_goto (tgt := 16) eX7_isOpen_12 rfl ?_
    subst h
    exact V_zret eX7_isOpen_16 rfl rfl ⟨rfl, rfl⟩
theorem bzX7_isOpen (c : SS) (p1 : Int32) : narrow .boolean (.int (fX7_isOpen c p1)) = .int (fX7_isOpen c p1) := by
  unfold fX7_isOpen
  repeat' split
  all_goals first | rfl
theorem hdX7_judgeHold : yX7_judgeHold.cls ≠ "java/lang/invoke/MethodHandle" ∧ yX7_judgeHold.cls ≠ "java/lang/invoke/VarHandle" ∧ (parseMethodDescriptor yX7_judgeHold.desc).map (fun d => d.parameters.length) = some 0 := by decide +kernel
theorem eX7_judgeHold_0 : Dc cX7_judgeHold 0 (.aload_n 0) 1 1 := ⟨by decide +kernel, rfl⟩
theorem eX7_judgeHold_1 : Dc cX7_judgeHold 1 (.bipush (-6)) 2 3 := ⟨by decide +kernel, rfl⟩
theorem eX7_judgeHold_3 : Dc cX7_judgeHold 3 (.putfield 141) 3 6 := ⟨by decide +kernel, rfl⟩
theorem eX7_judgeHold_6 : Dc cX7_judgeHold 6 (.aload_n 0) 1 7 := ⟨by decide +kernel, rfl⟩
theorem eX7_judgeHold_7 : Dc cX7_judgeHold 7 (.bipush (-6)) 2 9 := ⟨by decide +kernel, rfl⟩
theorem eX7_judgeHold_9 : Dc cX7_judgeHold 9 (.putfield 144) 3 12 := ⟨by decide +kernel, rfl⟩
theorem eX7_judgeHold_12 : Dc cX7_judgeHold 12 (.iconst 0) 1 13 := ⟨by decide +kernel, rfl⟩
theorem eX7_judgeHold_13 : Dc cX7_judgeHold 13 (.istore_n 1) 1 14 := ⟨by decide +kernel, rfl⟩
theorem eX7_judgeHold_14 : Dc cX7_judgeHold 14 (.iconst 0) 1 15 := ⟨by decide +kernel, rfl⟩
theorem eX7_judgeHold_15 : Dc cX7_judgeHold 15 (.istore_n 2) 1 16 := ⟨by decide +kernel, rfl⟩
theorem eX7_judgeHold_16 : Dc cX7_judgeHold 16 (.iload_n 2) 1 17 := ⟨by decide +kernel, rfl⟩
theorem eX7_judgeHold_17 : Dc cX7_judgeHold 17 (.aload_n 0) 1 18 := ⟨by decide +kernel, rfl⟩
theorem eX7_judgeHold_18 : Dc cX7_judgeHold 18 (.getfield 69) 3 21 := ⟨by decide +kernel, rfl⟩
theorem eX7_judgeHold_21 : Dc cX7_judgeHold 21 (.if_icmp .ge 126) 3 24 := ⟨by decide +kernel, rfl⟩
theorem eX7_judgeHold_24 : Dc cX7_judgeHold 24 (.aload_n 0) 1 25 := ⟨by decide +kernel, rfl⟩
theorem eX7_judgeHold_25 : Dc cX7_judgeHold 25 (.getfield 40) 3 28 := ⟨by decide +kernel, rfl⟩
theorem eX7_judgeHold_28 : Dc cX7_judgeHold 28 (.iload_n 2) 1 29 := ⟨by decide +kernel, rfl⟩
theorem eX7_judgeHold_29 : Dc cX7_judgeHold 29 (.aload_n 0) 1 30 := ⟨by decide +kernel, rfl⟩
theorem eX7_judgeHold_30 : Dc cX7_judgeHold 30 (.iload_n 2) 1 31 := ⟨by decide +kernel, rfl⟩
theorem eX7_judgeHold_31 : Dc cX7_judgeHold 31 (.invokevirtual 131) 3 34 := ⟨by decide +kernel, rfl⟩
theorem eX7_judgeHold_34 : Dc cX7_judgeHold 34 (.ifCond .eq 15) 3 37 := ⟨by decide +kernel, rfl⟩
theorem eX7_judgeHold_37 : Dc cX7_judgeHold 37 (.aload_n 0) 1 38 := ⟨by decide +kernel, rfl⟩
theorem eX7_judgeHold_38 : Dc cX7_judgeHold 38 (.getfield 37) 3 41 := ⟨by decide +kernel, rfl⟩
theorem eX7_judgeHold_41 : Dc cX7_judgeHold 41 (.iload_n 2) 1 42 := ⟨by decide +kernel, rfl⟩
theorem eX7_judgeHold_42 : Dc cX7_judgeHold 42 (.iaload) 1 43 := ⟨by decide +kernel, rfl⟩
theorem eX7_judgeHold_43 : Dc cX7_judgeHold 43 (.bipush 48) 2 45 := ⟨by decide +kernel, rfl⟩
theorem eX7_judgeHold_45 : Dc cX7_judgeHold 45 (.isub) 1 46 := ⟨by decide +kernel, rfl⟩
theorem eX7_judgeHold_46 : Dc cX7_judgeHold 46 (.goto 4) 3 49 := ⟨by decide +kernel, rfl⟩
theorem eX7_judgeHold_49 : Dc cX7_judgeHold 49 (.iconst 0) 1 50 := ⟨by decide +kernel, rfl⟩
theorem eX7_judgeHold_50 : Dc cX7_judgeHold 50 (.iastore) 1 51 := ⟨by decide +kernel, rfl⟩
theorem eX7_judgeHold_51 : Dc cX7_judgeHold 51 (.iload_n 1) 1 52 := ⟨by decide +kernel, rfl⟩
theorem eX7_judgeHold_52 : Dc cX7_judgeHold 52 (.istore_n 3) 1 53 := ⟨by decide +kernel, rfl⟩
theorem eX7_judgeHold_53 : Dc cX7_judgeHold 53 (.iload_n 1) 1 54 := ⟨by decide +kernel, rfl⟩
theorem eX7_judgeHold_54 : Dc cX7_judgeHold 54 (.aload_n 0) 1 55 := ⟨by decide +kernel, rfl⟩
theorem eX7_judgeHold_55 : Dc cX7_judgeHold 55 (.getfield 40) 3 58 := ⟨by decide +kernel, rfl⟩
theorem eX7_judgeHold_58 : Dc cX7_judgeHold 58 (.iload_n 2) 1 59 := ⟨by decide +kernel, rfl⟩
theorem eX7_judgeHold_59 : Dc cX7_judgeHold 59 (.iaload) 1 60 := ⟨by decide +kernel, rfl⟩
theorem eX7_judgeHold_60 : Dc cX7_judgeHold 60 (.iadd) 1 61 := ⟨by decide +kernel, rfl⟩
theorem eX7_judgeHold_61 : Dc cX7_judgeHold 61 (.istore_n 1) 1 62 := ⟨by decide +kernel, rfl⟩
theorem eX7_judgeHold_62 : Dc cX7_judgeHold 62 (.iload_n 3) 1 63 := ⟨by decide +kernel, rfl⟩
theorem eX7_judgeHold_63 : Dc cX7_judgeHold 63 (.aload_n 0) 1 64 := ⟨by decide +kernel, rfl⟩
theorem eX7_judgeHold_64 : Dc cX7_judgeHold 64 (.getfield 73) 3 67 := ⟨by decide +kernel, rfl⟩
theorem eX7_judgeHold_67 : Dc cX7_judgeHold 67 (.if_icmp .gt 15) 3 70 := ⟨by decide +kernel, rfl⟩
theorem eX7_judgeHold_70 : Dc cX7_judgeHold 70 (.iload_n 1) 1 71 := ⟨by decide +kernel, rfl⟩
theorem eX7_judgeHold_71 : Dc cX7_judgeHold 71 (.aload_n 0) 1 72 := ⟨by decide +kernel, rfl⟩
theorem eX7_judgeHold_72 : Dc cX7_judgeHold 72 (.getfield 73) 3 75 := ⟨by decide +kernel, rfl⟩
theorem eX7_judgeHold_75 : Dc cX7_judgeHold 75 (.if_icmp .le 7) 3 78 := ⟨by decide +kernel, rfl⟩
theorem eX7_judgeHold_78 : Dc cX7_judgeHold 78 (.iconst 1) 1 79 := ⟨by decide +kernel, rfl⟩
theorem eX7_judgeHold_79 : Dc cX7_judgeHold 79 (.goto 4) 3 82 := ⟨by decide +kernel, rfl⟩
theorem eX7_judgeHold_82 : Dc cX7_judgeHold 82 (.iconst 0) 1 83 := ⟨by decide +kernel, rfl⟩
theorem eX7_judgeHold_83 : Dc cX7_judgeHold 83 (.istore 4) 2 85 := ⟨by decide +kernel, rfl⟩
theorem eX7_judgeHold_85 : Dc cX7_judgeHold 85 (.aload_n 0) 1 86 := ⟨by decide +kernel, rfl⟩
theorem eX7_judgeHold_86 : Dc cX7_judgeHold 86 (.getfield 40) 3 89 := ⟨by decide +kernel, rfl⟩
theorem eX7_judgeHold_89 : Dc cX7_judgeHold 89 (.iload_n 2) 1 90 := ⟨by decide +kernel, rfl⟩
theorem eX7_judgeHold_90 : Dc cX7_judgeHold 90 (.iaload) 1 91 := ⟨by decide +kernel, rfl⟩
theorem eX7_judgeHold_91 : Dc cX7_judgeHold 91 (.aload_n 0) 1 92 := ⟨by decide +kernel, rfl⟩
theorem eX7_judgeHold_92 : Dc cX7_judgeHold 92 (.getfield 76) 3 95 := ⟨by decide +kernel, rfl⟩
theorem eX7_judgeHold_95 : Dc cX7_judgeHold 95 (.if_icmp .le 24) 3 98 := ⟨by decide +kernel, rfl⟩
theorem eX7_judgeHold_98 : Dc cX7_judgeHold 98 (.aload_n 0) 1 99 := ⟨by decide +kernel, rfl⟩
theorem eX7_judgeHold_99 : Dc cX7_judgeHold 99 (.getfield 144) 3 102 := ⟨by decide +kernel, rfl⟩
theorem eX7_judgeHold_102 : Dc cX7_judgeHold 102 (.iconst 1) 1 103 := ⟨by decide +kernel, rfl⟩
theorem eX7_judgeHold_103 : Dc cX7_judgeHold 103 (.if_icmp .eq 16) 3 106 := ⟨by decide +kernel, rfl⟩
theorem eX7_judgeHold_106 : Dc cX7_judgeHold 106 (.aload_n 0) 1 107 := ⟨by decide +kernel, rfl⟩
theorem eX7_judgeHold_107 : Dc cX7_judgeHold 107 (.iload_n 2) 1 108 := ⟨by decide +kernel, rfl⟩
theorem eX7_judgeHold_108 : Dc cX7_judgeHold 108 (.putfield 141) 3 111 := ⟨by decide +kernel, rfl⟩
theorem eX7_judgeHold_111 : Dc cX7_judgeHold 111 (.aload_n 0) 1 112 := ⟨by decide +kernel, rfl⟩
theorem eX7_judgeHold_112 : Dc cX7_judgeHold 112 (.iconst 1) 1 113 := ⟨by decide +kernel, rfl⟩
theorem eX7_judgeHold_113 : Dc cX7_judgeHold 113 (.putfield 144) 3 116 := ⟨by decide +kernel, rfl⟩
theorem eX7_judgeHold_116 : Dc cX7_judgeHold 116 (.goto 25) 3 119 := ⟨by decide +kernel, rfl⟩
theorem eX7_judgeHold_119 : Dc cX7_judgeHold 119 (.iload 4) 2 121 := ⟨by decide +kernel, rfl⟩
theorem eX7_judgeHold_121 : Dc cX7_judgeHold 121 (.ifCond .eq 20) 3 124 := ⟨by decide +kernel, rfl⟩
theorem eX7_judgeHold_124 : Dc cX7_judgeHold 124 (.aload_n 0) 1 125 := ⟨by decide +kernel, rfl⟩
theorem eX7_judgeHold_125 : Dc cX7_judgeHold 125 (.getfield 144) 3 128 := ⟨by decide +kernel, rfl⟩
theorem eX7_judgeHold_128 : Dc cX7_judgeHold 128 (.ifCond .ge 13) 3 131 := ⟨by decide +kernel, rfl⟩
theorem eX7_judgeHold_131 : Dc cX7_judgeHold 131 (.aload_n 0) 1 132 := ⟨by decide +kernel, rfl⟩
theorem eX7_judgeHold_132 : Dc cX7_judgeHold 132 (.iload_n 2) 1 133 := ⟨by decide +kernel, rfl⟩
theorem eX7_judgeHold_133 : Dc cX7_judgeHold 133 (.putfield 141) 3 136 := ⟨by decide +kernel, rfl⟩
theorem eX7_judgeHold_136 : Dc cX7_judgeHold 136 (.aload_n 0) 1 137 := ⟨by decide +kernel, rfl⟩
theorem eX7_judgeHold_137 : Dc cX7_judgeHold 137 (.iconst 2) 1 138 := ⟨by decide +kernel, rfl⟩
theorem eX7_judgeHold_138 : Dc cX7_judgeHold 138 (.putfield 144) 3 141 := ⟨by decide +kernel, rfl⟩
theorem eX7_judgeHold_141 : Dc cX7_judgeHold 141 (.iinc 2 1) 3 144 := ⟨by decide +kernel, rfl⟩
theorem eX7_judgeHold_144 : Dc cX7_judgeHold 144 (.goto (-128)) 3 147 := ⟨by decide +kernel, rfl⟩
theorem eX7_judgeHold_147 : Dc cX7_judgeHold 147 (.return_) 1 148 := ⟨by decide +kernel, rfl⟩
def fX7_judgeHold_L16   : Nat → Int32 → Int32 → SS → Option (SS)
  | 0, _, _, _ => none
  | n + 1, a1, a2, c => if (c.1 0) ≤ a2 then some c else jn (fun (x2 : Int32) => ckb 6 a2 (ald 6 (upd (c.2 17) (a2).toNatClampNeg x2) a2 (fun v4 => jn (fun (x5 : Int32) => ald 6 (upd (c.2 17) (a2).toNatClampNeg x2) a2 (fun v6 => jn (fun (c7 : SS) => fX7_judgeHold_L16  n (a1 + v4) (a2 + (1 : Int32)) c7) (fun j141 => jn (fun (_ : Unit) => if x5 = (0 : Int32) then j141 (sA c 17 (a2).toNatClampNeg x2) else if (0 : Int32) ≤ (c.1 20) then j141 (sA c 17 (a2).toNatClampNeg x2) else j141 (sF (sF (sA c 17 (a2).toNatClampNeg x2) 19 a2) 20 (2 : Int32))) (fun j119 => if v6 ≤ (c.1 11) then j119 () else if (c.1 20) = (1 : Int32) then j119 () else j141 (sF (sF (sA c 17 (a2).toNatClampNeg x2) 19 a2) 20 (1 : Int32)))))) (fun j83 => jn (fun (_ : Unit) => j83 (0 : Int32)) (fun j82 => if (c.1 10) < a1 then j82 () else if (a1 + v4) ≤ (c.1 10) then j82 () else j83 (1 : Int32)))))) (fun j50 => if (fX7_isOpen c a2) = (0 : Int32) then j50 (0 : Int32) else ald 20 (c.2 15) a2 (fun v15 => j50 (v15 - (48 : Int32))))
def fX7_judgeHold (c : SS)  : Option (SS) := fX7_judgeHold_L16  fu (0 : Int32) (0 : Int32) (sF (sF c 19 (-6 : Int32)) 20 (-6 : Int32))
set_option maxRecDepth 20000 in
theorem ctX7_judgeHold_L16 (l : Launch) (G : tg_G) (A : Nat → Nat)   {z : SS}  : ∀ (n : Nat) (a1 : Int32) (a2 : Int32) (c : SS), fX7_judgeHold_L16  n a1 a2 c = some z → V l G (tg_Zm G (fun v w1 => v = none ∧ w1 = wM G A z) 0 0) tg_E0 (tg_R 1 21) "TramGodModel" "judgeHold" cX7_judgeHold 5 none 16 [(0, .ref (A 0)), (1, .int a1), (2, .int a2)] [] (wM G A c) 0 0 := by
  intro n
  induction n with
  | zero => intro a1 a2 c h; exact absurd h (by simp [fX7_judgeHold_L16])
  | succ n ih =>
    intro a1 a2 c h
    unfold fX7_judgeHold_L16 at h
    refine V_iload_n eX7_judgeHold_16 2 rfl ?_
    refine V_aload_n eX7_judgeHold_17 0 rfl ?_
    refine V_get (v := .int (c.1 0)) eX7_judgeHold_18 inX7 0 rfl rfl 0 (Nat.le_of_ble_eq_true rfl) tw_645 rfl ?_
    refine V_icmp_ge (tgt := 147) eX7_judgeHold_21 rfl (fun hb1 => ?_) (fun hb1 => ?_)
    · replace h := (if_pos hb1).symm.trans h
      obtain rfl := Option.some.inj h
      exact V_vret eX7_judgeHold_147 rfl ⟨rfl, rfl⟩
    · replace h := (if_neg hb1).symm.trans h
      refine V_aload_n eX7_judgeHold_24 0 rfl ?_
      refine V_get (v := .ref (A 11)) eX7_judgeHold_25 inX7 0 rfl rfl 17 (Nat.le_of_ble_eq_true rfl) tw_662 rfl ?_
      refine V_iload_n eX7_judgeHold_28 2 rfl ?_
      refine V_aload_n eX7_judgeHold_29 0 rfl ?_
      refine V_iload_n eX7_judgeHold_30 2 rfl ?_
      refine V_callVi (rest := [.int a2, .ref (A 11)]) eX7_judgeHold_31 (ctX7_isOpen l G A c a2 rfl) tc_818 tw_815 tw_8 tw_817 ts_24 0 rfl rfl hdX7_isOpen rfl ⟨Nat.le_of_ble_eq_true rfl, Nat.le_of_ble_eq_true rfl⟩ rfl (Nat.le_of_ble_eq_true rfl) ⟨Nat.zero_le _, Nat.zero_le _⟩ ?_
      refine jn_elim h (fun j => ∀ (x2 : Int32), j x2 = some z → V l G (tg_Zm G (fun v w1 => v = none ∧ w1 = wM G A z) 0 0) tg_E0 (tg_R 1 21) "TramGodModel" "judgeHold" cX7_judgeHold 5 none 50 [(0, .ref (A 0)), (1, .int a1), (2, .int a2)] [.int x2, .int a2, .ref (A 11)] (wM G A c) 0 0) ?_ (fun j50 hj50 h => ?_)
      · intro x2 h
        obtain ⟨hi3, h⟩ := ckb_some h
        refine V_iast (w' := wM G A (sA c 17 (a2).toNatClampNeg x2)) eX7_judgeHold_50 11 rfl hi3 rfl ?_
        refine V_iload_n eX7_judgeHold_51 1 rfl ?_
        refine V_istore_n (lv' := [(3, .int a1), (0, .ref (A 0)), (1, .int a1), (2, .int a2)]) eX7_judgeHold_52 (Nat.le_of_ble_eq_true rfl) rfl ?_
        refine V_iload_n eX7_judgeHold_53 2 rfl ?_
        refine V_aload_n eX7_judgeHold_54 1 rfl ?_
        refine V_get (v := .ref (A 11)) eX7_judgeHold_55 inX7 0 rfl rfl 17 (Nat.le_of_ble_eq_true rfl) tw_662 rfl ?_
        refine V_iload_n eX7_judgeHold_58 3 rfl ?_
        obtain ⟨v4, hi4, ev4, h⟩ := ald_some h
        refine V_ialdv eX7_judgeHold_59 11 rfl hi4 ev4 ?_
        refine V_iadd eX7_judgeHold_60 ?_
        refine V_istore_n (lv' := [(1, .int (a1 + v4)), (3, .int a1), (0, .ref (A 0)), (2, .int a2)]) eX7_judgeHold_61 (Nat.le_of_ble_eq_true rfl) rfl ?_
        refine V_iload_n eX7_judgeHold_62 1 rfl ?_
        refine V_aload_n eX7_judgeHold_63 2 rfl ?_
        refine V_get (v := .int (c.1 10)) eX7_judgeHold_64 inX7 0 rfl rfl 10 (Nat.le_of_ble_eq_true rfl) tw_655 rfl ?_
        refine jn_elim h (fun j => ∀ (x5 : Int32), j x5 = some z → V l G (tg_Zm G (fun v w1 => v = none ∧ w1 = wM G A z) 0 0) tg_E0 (tg_R 1 21) "TramGodModel" "judgeHold" cX7_judgeHold 5 none 83 [(0, .ref (A 0)), (1, .int (a1 + v4)), (2, .int a2)] [.int x5] (wM G A (sA c 17 (a2).toNatClampNeg x2)) 0 0) ?_ (fun j83 hj83 h => ?_)
        · intro x5 h
          refine V_istore (lv' := [(4, .int x5), (0, .ref (A 0)), (1, .int (a1 + v4)), (2, .int a2)]) eX7_judgeHold_83 (Nat.le_of_ble_eq_true rfl) rfl ?_
          refine V_aload_n eX7_judgeHold_85 1 rfl ?_
          refine V_get (v := .ref (A 11)) eX7_judgeHold_86 inX7 0 rfl rfl 17 (Nat.le_of_ble_eq_true rfl) tw_662 rfl ?_
          refine V_iload_n eX7_judgeHold_89 3 rfl ?_
          obtain ⟨v6, hi6, ev6, h⟩ := ald_some h
          refine V_ialdv eX7_judgeHold_90 11 rfl hi6 ev6 ?_
          refine V_aload_n eX7_judgeHold_91 1 rfl ?_
          refine V_get (v := .int (c.1 11)) eX7_judgeHold_92 inX7 0 rfl rfl 11 (Nat.le_of_ble_eq_true rfl) tw_656 rfl ?_
          refine jn_elim h (fun j => ∀ (c7 : SS), j c7 = some z → V l G (tg_Zm G (fun v w1 => v = none ∧ w1 = wM G A z) 0 0) tg_E0 (tg_R 1 21) "TramGodModel" "judgeHold" cX7_judgeHold 5 none 141 [(0, .ref (A 0)), (1, .int (a1 + v4)), (2, .int a2)] [] (wM G A c7) 0 0) ?_ (fun j141 hj141 h => ?_)
          · intro c7 h
            refine V_iinc (v := (a2 + (1 : Int32))) (lv' := [(2, .int (a2 + (1 : Int32))), (0, .ref (A 0)), (1, .int (a1 + v4))]) eX7_judgeHold_141 2 rfl rfl (Nat.le_of_ble_eq_true rfl) rfl ?_
            refine V_goto (tgt := 16) eX7_judgeHold_144 rfl ?_
            refine V_lv (lv' := [(0, .ref (A 0)), (1, .int (a1 + v4)), (2, .int (a2 + (1 : Int32)))]) [1, 2, 0] rfl ?_
            exact ih (a1 + v4) (a2 + (1 : Int32)) c7 h
          refine jn_elim h (fun j => j () = some z → V l G (tg_Zm G (fun v w1 => v = none ∧ w1 = wM G A z) 0 0) tg_E0 (tg_R 1 21) "TramGodModel" "judgeHold" cX7_judgeHold 5 none 119 [(0, .ref (A 0)), (1, .int (a1 + v4)), (2, .int a2), (4, .int x5)] [] (wM G A (sA c 17 (a2).toNatClampNeg x2)) 0 0) ?_ (fun j119 hj119 h => ?_)
          · intro h
            refine V_iload eX7_judgeHold_119 3 rfl ?_
            refine V_if_eq (tgt := 141) eX7_judgeHold_121 rfl (fun hb8 => ?_) (fun hb8 => ?_)
            · replace h := (if_pos hb8).symm.trans h
              refine V_lv (lv' := [(0, .ref (A 0)), (1, .int (a1 + v4)), (2, .int a2)]) [0, 1, 2] rfl ?_
              exact hj141 (sA c 17 (a2).toNatClampNeg x2) h
            · replace h := (if_neg hb8).symm.trans h
              refine V_aload_n eX7_judgeHold_124 0 rfl ?_
              refine V_get (v := .int (c.1 20)) eX7_judgeHold_125 inX7 0 rfl rfl 20 (Nat.le_of_ble_eq_true rfl) tw_665 rfl ?_
              refine V_if_ge (tgt := 141) eX7_judgeHold_128 rfl (fun hb9 => ?_) (fun hb9 => ?_)
              · replace h := (if_pos hb9).symm.trans h
                refine V_lv (lv' := [(0, .ref (A 0)), (1, .int (a1 + v4)), (2, .int a2)]) [0, 1, 2] rfl ?_
                exact hj141 (sA c 17 (a2).toNatClampNeg x2) h
              · replace h := (if_neg hb9).symm.trans h
                refine V_aload_n eX7_judgeHold_131 0 rfl ?_
                refine V_iload_n eX7_judgeHold_132 2 rfl ?_
                refine V_put (w' := wM G A (sF (sA c 17 (a2).toNatClampNeg x2) 19 a2)) eX7_judgeHold_133 inX7 tyX7 tyX7_ok nmX7 0 rfl rfl 19 (Nat.le_of_ble_eq_true rfl) tw_664 rfl rfl rfl rfl (Nat.le_of_ble_eq_true rfl) rfl ?_
                refine V_aload_n eX7_judgeHold_136 0 rfl ?_
                refine V_iconst (v := (2 : Int32)) eX7_judgeHold_137 rfl ?_
                refine V_put (w' := wM G A (sF (sF (sA c 17 (a2).toNatClampNeg x2) 19 a2) 20 (2 : Int32))) eX7_judgeHold_138 inX7 tyX7 tyX7_ok nmX7 0 rfl rfl 20 (Nat.le_of_ble_eq_true rfl) tw_665 rfl rfl rfl rfl (Nat.le_of_ble_eq_true rfl) rfl ?_
                refine V_lv (lv' := [(0, .ref (A 0)), (1, .int (a1 + v4)), (2, .int a2)]) [0, 1, 2] rfl ?_
                exact hj141 (sF (sF (sA c 17 (a2).toNatClampNeg x2) 19 a2) 20 (2 : Int32)) h
          refine V_icmp_le (tgt := 119) eX7_judgeHold_95 rfl (fun hb10 => ?_) (fun hb10 => ?_)
          · replace h := (if_pos hb10).symm.trans h
            refine V_lv (lv' := [(0, .ref (A 0)), (1, .int (a1 + v4)), (2, .int a2), (4, .int x5)]) [1, 2, 3, 0] rfl ?_
            exact hj119 h
          · replace h := (if_neg hb10).symm.trans h
            refine V_aload_n eX7_judgeHold_98 1 rfl ?_
            refine V_get (v := .int (c.1 20)) eX7_judgeHold_99 inX7 0 rfl rfl 20 (Nat.le_of_ble_eq_true rfl) tw_665 rfl ?_
            refine V_iconst (v := (1 : Int32)) eX7_judgeHold_102 rfl ?_
            refine V_icmp_eq (tgt := 119) eX7_judgeHold_103 rfl (fun hb11 => ?_) (fun hb11 => ?_)
            · replace h := (if_pos hb11).symm.trans h
              refine V_lv (lv' := [(0, .ref (A 0)), (1, .int (a1 + v4)), (2, .int a2), (4, .int x5)]) [1, 2, 3, 0] rfl ?_
              exact hj119 h
            · replace h := (if_neg hb11).symm.trans h
              refine V_aload_n eX7_judgeHold_106 1 rfl ?_
              refine V_iload_n eX7_judgeHold_107 3 rfl ?_
              refine V_put (w' := wM G A (sF (sA c 17 (a2).toNatClampNeg x2) 19 a2)) eX7_judgeHold_108 inX7 tyX7 tyX7_ok nmX7 0 rfl rfl 19 (Nat.le_of_ble_eq_true rfl) tw_664 rfl rfl rfl rfl (Nat.le_of_ble_eq_true rfl) rfl ?_
              refine V_aload_n eX7_judgeHold_111 1 rfl ?_
              refine V_iconst (v := (1 : Int32)) eX7_judgeHold_112 rfl ?_
              refine V_put (w' := wM G A (sF (sF (sA c 17 (a2).toNatClampNeg x2) 19 a2) 20 (1 : Int32))) eX7_judgeHold_113 inX7 tyX7 tyX7_ok nmX7 0 rfl rfl 20 (Nat.le_of_ble_eq_true rfl) tw_665 rfl rfl rfl rfl (Nat.le_of_ble_eq_true rfl) rfl ?_
              refine V_goto (tgt := 141) eX7_judgeHold_116 rfl ?_
              refine V_lv (lv' := [(0, .ref (A 0)), (1, .int (a1 + v4)), (2, .int a2)]) [1, 2, 3] rfl ?_
              exact hj141 (sF (sF (sA c 17 (a2).toNatClampNeg x2) 19 a2) 20 (1 : Int32)) h
        refine jn_elim h (fun j => j () = some z → V l G (tg_Zm G (fun v w1 => v = none ∧ w1 = wM G A z) 0 0) tg_E0 (tg_R 1 21) "TramGodModel" "judgeHold" cX7_judgeHold 5 none 82 [(0, .ref (A 0)), (1, .int (a1 + v4)), (2, .int a2)] [] (wM G A (sA c 17 (a2).toNatClampNeg x2)) 0 0) ?_ (fun j82 hj82 h => ?_)
        · intro h
          refine V_iconst (v := (0 : Int32)) eX7_judgeHold_82 rfl ?_
          exact hj83 (0 : Int32) h
        refine V_icmp_gt (tgt := 82) eX7_judgeHold_67 rfl (fun hb12 => ?_) (fun hb12 => ?_)
        · replace h := (if_pos hb12).symm.trans h
          refine V_lv (lv' := [(0, .ref (A 0)), (1, .int (a1 + v4)), (2, .int a2)]) [2, 0, 3] rfl ?_
          exact hj82 h
        · replace h := (if_neg hb12).symm.trans h
          refine V_iload_n eX7_judgeHold_70 0 rfl ?_
          refine V_aload_n eX7_judgeHold_71 2 rfl ?_
          refine V_get (v := .int (c.1 10)) eX7_judgeHold_72 inX7 0 rfl rfl 10 (Nat.le_of_ble_eq_true rfl) tw_655 rfl ?_
          refine V_icmp_le (tgt := 82) eX7_judgeHold_75 rfl (fun hb13 => ?_) (fun hb13 => ?_)
          · replace h := (if_pos hb13).symm.trans h
            refine V_lv (lv' := [(0, .ref (A 0)), (1, .int (a1 + v4)), (2, .int a2)]) [2, 0, 3] rfl ?_
            exact hj82 h
          · replace h := (if_neg hb13).symm.trans h
            refine V_iconst (v := (1 : Int32)) eX7_judgeHold_78 rfl ?_
            refine V_goto (tgt := 83) eX7_judgeHold_79 rfl ?_
            refine V_lv (lv' := [(0, .ref (A 0)), (1, .int (a1 + v4)), (2, .int a2)]) [2, 0, 3] rfl ?_
            exact hj83 (1 : Int32) h
      refine V_if_eq (tgt := 49) eX7_judgeHold_34 rfl (fun hb14 => ?_) (fun hb14 => ?_)
      · replace h := (if_pos hb14).symm.trans h
        refine V_iconst (v := (0 : Int32)) eX7_judgeHold_49 rfl ?_
        exact hj50 (0 : Int32) h
      · replace h := (if_neg hb14).symm.trans h
        refine V_aload_n eX7_judgeHold_37 0 rfl ?_
        refine V_get (v := .ref (A 10)) eX7_judgeHold_38 inX7 0 rfl rfl 15 (Nat.le_of_ble_eq_true rfl) tw_660 rfl ?_
        refine V_iload_n eX7_judgeHold_41 2 rfl ?_
        obtain ⟨v15, hi15, ev15, h⟩ := ald_some h
        refine V_ialdv eX7_judgeHold_42 10 rfl hi15 ev15 ?_
        refine V_bipush (v := (48 : Int32)) eX7_judgeHold_43 rfl ?_
        refine V_isub eX7_judgeHold_45 ?_
        refine V_goto (tgt := 50) eX7_judgeHold_46 rfl ?_
        exact hj50 (v15 - (48 : Int32)) h
set_option maxRecDepth 20000 in
theorem ctX7_judgeHold (l : Launch) (G : tg_G) (A : Nat → Nat) (c : SS)  {z : SS} (h : fX7_judgeHold c  = some z) : Mt l G yX7_judgeHold cX7_judgeHold 5 none (tg_R 1 21) [.ref (A 0)] (wM G A c) (fun v w1 => v = none ∧ w1 = wM G A z) := by
  refine Mt_of2 (own := "TramGodModel") (nm := "judgeHold") rfl rfl rfl (Nat.le_of_ble_eq_true rfl) (lv := [(0, .ref (A 0))]) rfl ?_
  unfold fX7_judgeHold at h
  refine V_aload_n eX7_judgeHold_0 0 rfl ?_
  refine V_bipush (v := (-6 : Int32)) eX7_judgeHold_1 rfl ?_
  refine V_put (w' := wM G A (sF c 19 (-6 : Int32))) eX7_judgeHold_3 inX7 tyX7 tyX7_ok nmX7 0 rfl rfl 19 (Nat.le_of_ble_eq_true rfl) tw_664 rfl rfl rfl rfl (Nat.le_of_ble_eq_true rfl) rfl ?_
  refine V_aload_n eX7_judgeHold_6 0 rfl ?_
  refine V_bipush (v := (-6 : Int32)) eX7_judgeHold_7 rfl ?_
  refine V_put (w' := wM G A (sF (sF c 19 (-6 : Int32)) 20 (-6 : Int32))) eX7_judgeHold_9 inX7 tyX7 tyX7_ok nmX7 0 rfl rfl 20 (Nat.le_of_ble_eq_true rfl) tw_665 rfl rfl rfl rfl (Nat.le_of_ble_eq_true rfl) rfl ?_
  refine V_iconst (v := (0 : Int32)) eX7_judgeHold_12 rfl ?_
  refine V_istore_n (lv' := [(1, .int (0 : Int32)), (0, .ref (A 0))]) eX7_judgeHold_13 (Nat.le_of_ble_eq_true rfl) rfl ?_
  refine V_iconst (v := (0 : Int32)) eX7_judgeHold_14 rfl ?_
  refine V_istore_n (lv' := [(2, .int (0 : Int32)), (1, .int (0 : Int32)), (0, .ref (A 0))]) eX7_judgeHold_15 (Nat.le_of_ble_eq_true rfl) rfl ?_
  refine V_lv (lv' := [(0, .ref (A 0)), (1, .int (0 : Int32)), (2, .int (0 : Int32))]) [2, 1, 0] rfl ?_
  refine ctX7_judgeHold_L16 l G A fu (0 : Int32) (0 : Int32) (sF (sF c 19 (-6 : Int32)) 20 (-6 : Int32)) h
theorem hdX7_judge : yX7_judge.cls ≠ "java/lang/invoke/MethodHandle" ∧ yX7_judge.cls ≠ "java/lang/invoke/VarHandle" ∧ (parseMethodDescriptor yX7_judge.desc).map (fun d => d.parameters.length) = some 1 := by decide +kernel
theorem eX7_judge_0 : Dc cX7_judge 0 (.iload_n 1) 1 1 := ⟨by decide +kernel, rfl⟩
theorem eX7_judge_1 : Dc cX7_judge 1 (.i2l) 1 2 := ⟨by decide +kernel, rfl⟩
theorem eX7_judge_2 : Dc cX7_judge 2 (.lconst 0) 1 3 := ⟨by decide +kernel, rfl⟩
theorem eX7_judge_3 : Dc cX7_judge 3 (.lconst 1) 1 4 := ⟨by decide +kernel, rfl⟩
theorem eX7_judge_4 : Dc cX7_judge 4 (.invokestatic 79) 3 7 := ⟨by decide +kernel, rfl⟩
theorem eX7_judge_7 : Dc cX7_judge 7 (.ifCond .ne 6) 3 10 := ⟨by decide +kernel, rfl⟩
theorem eX7_judge_10 : Dc cX7_judge 10 (.bipush (-2)) 2 12 := ⟨by decide +kernel, rfl⟩
theorem eX7_judge_12 : Dc cX7_judge 12 (.ireturn) 1 13 := ⟨by decide +kernel, rfl⟩
theorem eX7_judge_13 : Dc cX7_judge 13 (.aload_n 0) 1 14 := ⟨by decide +kernel, rfl⟩
theorem eX7_judge_14 : Dc cX7_judge 14 (.iconst 1) 1 15 := ⟨by decide +kernel, rfl⟩
theorem eX7_judge_15 : Dc cX7_judge 15 (.invokevirtual 147) 3 18 := ⟨by decide +kernel, rfl⟩
theorem eX7_judge_18 : Dc cX7_judge 18 (.ifCond .lt 6) 3 21 := ⟨by decide +kernel, rfl⟩
theorem eX7_judge_21 : Dc cX7_judge 21 (.bipush (-5)) 2 23 := ⟨by decide +kernel, rfl⟩
theorem eX7_judge_23 : Dc cX7_judge 23 (.ireturn) 1 24 := ⟨by decide +kernel, rfl⟩
theorem eX7_judge_24 : Dc cX7_judge 24 (.aload_n 0) 1 25 := ⟨by decide +kernel, rfl⟩
theorem eX7_judge_25 : Dc cX7_judge 25 (.invokevirtual 150) 3 28 := ⟨by decide +kernel, rfl⟩
theorem eX7_judge_28 : Dc cX7_judge 28 (.iload_n 1) 1 29 := ⟨by decide +kernel, rfl⟩
theorem eX7_judge_29 : Dc cX7_judge 29 (.ifCond .ne 10) 3 32 := ⟨by decide +kernel, rfl⟩
theorem eX7_judge_32 : Dc cX7_judge 32 (.aload_n 0) 1 33 := ⟨by decide +kernel, rfl⟩
theorem eX7_judge_33 : Dc cX7_judge 33 (.getfield 141) 3 36 := ⟨by decide +kernel, rfl⟩
theorem eX7_judge_36 : Dc cX7_judge 36 (.goto 7) 3 39 := ⟨by decide +kernel, rfl⟩
theorem eX7_judge_39 : Dc cX7_judge 39 (.aload_n 0) 1 40 := ⟨by decide +kernel, rfl⟩
theorem eX7_judge_40 : Dc cX7_judge 40 (.getfield 144) 3 43 := ⟨by decide +kernel, rfl⟩
theorem eX7_judge_43 : Dc cX7_judge 43 (.ireturn) 1 44 := ⟨by decide +kernel, rfl⟩
def fX7_judge (c : SS) (p1 : Int32) : Option (Int32 × SS) := if (fX7_in (p1).toInt64 (0 : Int64) (1 : Int64)) = (0 : Int32) then some ((-2 : Int32), c) else Option.bind (fX7_fault c (1 : Int32)) (fun q2 => if q2 < (0 : Int32) then Option.bind (fX7_judgeHold c) (fun q4 => if p1 = (0 : Int32) then some ((q4.1 19), q4) else some ((q4.1 20), q4)) else some ((-5 : Int32), c))
set_option maxRecDepth 20000 in
theorem ctX7_judge (l : Launch) (G : tg_G) (A : Nat → Nat) (c : SS) (p1 : Int32) {z : Int32 × SS} (h : fX7_judge c p1 = some z) : Mt l G yX7_judge cX7_judge 2 (some .int) (tg_R 3 69) [.ref (A 0), .int p1] (wM G A c) (fun v w1 => v = some (.int z.1) ∧ w1 = wM G A z.2) := by
  refine Mt_of2 (own := "TramGodModel") (nm := "judge") rfl rfl rfl (Nat.le_of_ble_eq_true rfl) (lv := [(0, .ref (A 0)), (1, .int p1)]) rfl ?_
  unfold fX7_judge at h
  refine V_iload_n eX7_judge_0 1 rfl ?_
  refine V_i2l eX7_judge_1 ?_
  refine V_lconst (v := (0 : Int64)) eX7_judge_2 rfl ?_
  refine V_lconst (v := (1 : Int64)) eX7_judge_3 rfl ?_
  refine V_callSi (rest := []) eX7_judge_4 (ctX7_in l G _ (p1).toInt64 (0 : Int64) (1 : Int64) rfl) tc_748 tw_746 tw_8 tw_747 hdX7_in rfl ⟨Nat.le_of_ble_eq_true rfl, Nat.le_of_ble_eq_true rfl⟩ rfl (Nat.le_of_ble_eq_true rfl) ⟨Nat.zero_le _, Nat.zero_le _⟩ ?_
  refine V_if_ne (tgt := 13) eX7_judge_7 rfl (fun hb1 => ?_) (fun hb1 => ?_)
  · replace h := (if_neg hb1).symm.trans h
    refine V_aload_n eX7_judge_13 0 rfl ?_
    refine V_iconst (v := (1 : Int32)) eX7_judge_14 rfl ?_
    obtain ⟨q2, hc2, h⟩ := Option.bind_eq_some_iff.mp h
    refine V_callVi (rest := []) eX7_judge_15 (ctX7_fault l G A c (1 : Int32) hc2) tc_756 tw_810 tw_8 tw_754 tw_755 0 rfl rfl hdX7_fault rfl ⟨Nat.le_of_ble_eq_true rfl, Nat.le_of_ble_eq_true rfl⟩ rfl (Nat.le_of_ble_eq_true rfl) ⟨Nat.zero_le _, Nat.zero_le _⟩ ?_
    refine V_if_lt (tgt := 24) eX7_judge_18 rfl (fun hb3 => ?_) (fun hb3 => ?_)
    · replace h := (if_pos hb3).symm.trans h
      refine V_aload_n eX7_judge_24 0 rfl ?_
      obtain ⟨q4, hc4, h⟩ := Option.bind_eq_some_iff.mp h
      refine V_callVv (rest := []) eX7_judge_25 (ctX7_judgeHold l G A c hc4) tc_814 tw_811 tw_8 tw_813 ts_23 0 rfl rfl hdX7_judgeHold rfl ⟨Nat.le_of_ble_eq_true rfl, Nat.le_of_ble_eq_true rfl⟩ rfl (Nat.le_of_ble_eq_true rfl) ⟨Nat.zero_le _, Nat.zero_le _⟩ ?_
      refine V_iload_n eX7_judge_28 1 rfl ?_
      refine V_if_ne (tgt := 39) eX7_judge_29 rfl (fun hb5 => ?_) (fun hb5 => ?_)
      · replace h := (if_neg hb5).symm.trans h
        refine V_aload_n eX7_judge_39 0 rfl ?_
        refine V_get (v := .int (q4.1 20)) eX7_judge_40 inX7 0 rfl rfl 20 (Nat.le_of_ble_eq_true rfl) tw_665 rfl ?_
        obtain rfl := Option.some.inj h
        exact V_ret eX7_judge_43 rfl ⟨rfl, rfl⟩
      · replace h := (if_pos hb5).symm.trans h
        refine V_aload_n eX7_judge_32 0 rfl ?_
        refine V_get (v := .int (q4.1 19)) eX7_judge_33 inX7 0 rfl rfl 19 (Nat.le_of_ble_eq_true rfl) tw_664 rfl ?_
        refine V_goto (tgt := 43) eX7_judge_36 rfl ?_
        obtain rfl := Option.some.inj h
        exact V_ret eX7_judge_43 rfl ⟨rfl, rfl⟩
    · replace h := (if_neg hb3).symm.trans h
      refine V_bipush (v := (-5 : Int32)) eX7_judge_21 rfl ?_
      obtain rfl := Option.some.inj h
      exact V_ret eX7_judge_23 rfl ⟨rfl, rfl⟩
  · replace h := (if_pos hb1).symm.trans h
    refine V_bipush (v := (-2 : Int32)) eX7_judge_10 rfl ?_
    obtain rfl := Option.some.inj h
    exact V_ret eX7_judge_12 rfl ⟨rfl, rfl⟩
theorem hdX7_isRefused : yX7_isRefused.cls ≠ "java/lang/invoke/MethodHandle" ∧ yX7_isRefused.cls ≠ "java/lang/invoke/VarHandle" ∧ (parseMethodDescriptor yX7_isRefused.desc).map (fun d => d.parameters.length) = some 0 := by decide +kernel
theorem eX7_isRefused_0 : Dc cX7_isRefused 0 (.aload_n 0) 1 1 := ⟨by decide +kernel, rfl⟩
theorem eX7_isRefused_1 : Dc cX7_isRefused 1 (.iconst 1) 1 2 := ⟨by decide +kernel, rfl⟩
theorem eX7_isRefused_2 : Dc cX7_isRefused 2 (.invokevirtual 147) 3 5 := ⟨by decide +kernel, rfl⟩
theorem eX7_isRefused_5 : Dc cX7_isRefused 5 (.ifCond .lt 5) 3 8 := ⟨by decide +kernel, rfl⟩
theorem eX7_isRefused_8 : Dc cX7_isRefused 8 (.iconst 1) 1 9 := ⟨by decide +kernel, rfl⟩
theorem eX7_isRefused_9 : Dc cX7_isRefused 9 (.ireturn) 1 10 := ⟨by decide +kernel, rfl⟩
theorem eX7_isRefused_10 : Dc cX7_isRefused 10 (.aload_n 0) 1 11 := ⟨by decide +kernel, rfl⟩
theorem eX7_isRefused_11 : Dc cX7_isRefused 11 (.invokevirtual 150) 3 14 := ⟨by decide +kernel, rfl⟩
theorem eX7_isRefused_14 : Dc cX7_isRefused 14 (.aload_n 0) 1 15 := ⟨by decide +kernel, rfl⟩
theorem eX7_isRefused_15 : Dc cX7_isRefused 15 (.getfield 144) 3 18 := ⟨by decide +kernel, rfl⟩
theorem eX7_isRefused_18 : Dc cX7_isRefused 18 (.ifCond .le 7) 3 21 := ⟨by decide +kernel, rfl⟩
theorem eX7_isRefused_21 : Dc cX7_isRefused 21 (.iconst 1) 1 22 := ⟨by decide +kernel, rfl⟩
theorem eX7_isRefused_22 : Dc cX7_isRefused 22 (.goto 4) 3 25 := ⟨by decide +kernel, rfl⟩
theorem eX7_isRefused_25 : Dc cX7_isRefused 25 (.iconst 0) 1 26 := ⟨by decide +kernel, rfl⟩
theorem eX7_isRefused_26 : Dc cX7_isRefused 26 (.ireturn) 1 27 := ⟨by decide +kernel, rfl⟩
def fX7_isRefused (c : SS)  : Option (Int32 × SS) := Option.bind (fX7_fault c (1 : Int32)) (fun q1 => if q1 < (0 : Int32) then Option.bind (fX7_judgeHold c) (fun q3 => if (q3.1 20) ≤ (0 : Int32) then some ((0 : Int32), q3) else some ((1 : Int32), q3)) else some ((1 : Int32), c))
set_option maxRecDepth 20000 in
theorem ctX7_isRefused (l : Launch) (G : tg_G) (A : Nat → Nat) (c : SS)  {z : Int32 × SS} (h : fX7_isRefused c  = some z) : Mt l G yX7_isRefused cX7_isRefused 1 (some .boolean) (tg_R 3 69) [.ref (A 0)] (wM G A c) (fun v w1 => v = some (.int z.1) ∧ w1 = wM G A z.2) := by
  refine Mt_of2 (own := "TramGodModel") (nm := "isRefused") rfl rfl rfl (Nat.le_of_ble_eq_true rfl) (lv := [(0, .ref (A 0))]) rfl ?_
  unfold fX7_isRefused at h
  refine V_aload_n eX7_isRefused_0 0 rfl ?_
  refine V_iconst (v := (1 : Int32)) eX7_isRefused_1 rfl ?_
  obtain ⟨q1, hc1, h⟩ := Option.bind_eq_some_iff.mp h
  refine V_callVi (rest := []) eX7_isRefused_2 (ctX7_fault l G A c (1 : Int32) hc1) tc_756 tw_810 tw_8 tw_754 tw_755 0 rfl rfl hdX7_fault rfl ⟨Nat.le_of_ble_eq_true rfl, Nat.le_of_ble_eq_true rfl⟩ rfl (Nat.le_of_ble_eq_true rfl) ⟨Nat.zero_le _, Nat.zero_le _⟩ ?_
  refine V_if_lt (tgt := 10) eX7_isRefused_5 rfl (fun hb2 => ?_) (fun hb2 => ?_)
  · replace h := (if_pos hb2).symm.trans h
    refine V_aload_n eX7_isRefused_10 0 rfl ?_
    obtain ⟨q3, hc3, h⟩ := Option.bind_eq_some_iff.mp h
    refine V_callVv (rest := []) eX7_isRefused_11 (ctX7_judgeHold l G A c hc3) tc_814 tw_811 tw_8 tw_813 ts_23 0 rfl rfl hdX7_judgeHold rfl ⟨Nat.le_of_ble_eq_true rfl, Nat.le_of_ble_eq_true rfl⟩ rfl (Nat.le_of_ble_eq_true rfl) ⟨Nat.zero_le _, Nat.zero_le _⟩ ?_
    refine V_aload_n eX7_isRefused_14 0 rfl ?_
    refine V_get (v := .int (q3.1 20)) eX7_isRefused_15 inX7 0 rfl rfl 20 (Nat.le_of_ble_eq_true rfl) tw_665 rfl ?_
    refine V_if_le (tgt := 25) eX7_isRefused_18 rfl (fun hb4 => ?_) (fun hb4 => ?_)
    · replace h := (if_pos hb4).symm.trans h
      refine V_iconst (v := (0 : Int32)) eX7_isRefused_25 rfl ?_
      obtain rfl := Option.some.inj h
      exact V_zret eX7_isRefused_26 rfl rfl ⟨rfl, rfl⟩
    · replace h := (if_neg hb4).symm.trans h
      refine V_iconst (v := (1 : Int32)) eX7_isRefused_21 rfl ?_
      refine V_goto (tgt := 26) eX7_isRefused_22 rfl ?_
      obtain rfl := Option.some.inj h
      exact V_zret eX7_isRefused_26 rfl rfl ⟨rfl, rfl⟩
  · replace h := (if_neg hb2).symm.trans h
    refine V_iconst (v := (1 : Int32)) eX7_isRefused_8 rfl ?_
    obtain rfl := Option.some.inj h
    exact V_zret eX7_isRefused_9 rfl rfl ⟨rfl, rfl⟩
theorem hdX7_findLeaves : yX7_findLeaves.cls ≠ "java/lang/invoke/MethodHandle" ∧ yX7_findLeaves.cls ≠ "java/lang/invoke/VarHandle" ∧ (parseMethodDescriptor yX7_findLeaves.desc).map (fun d => d.parameters.length) = some 0 := by decide +kernel
theorem eX7_findLeaves_0 : Dc cX7_findLeaves 0 (.iconst 0) 1 1 := ⟨by decide +kernel, rfl⟩
theorem eX7_findLeaves_1 : Dc cX7_findLeaves 1 (.istore_n 1) 1 2 := ⟨by decide +kernel, rfl⟩
theorem eX7_findLeaves_2 : Dc cX7_findLeaves 2 (.iconst 0) 1 3 := ⟨by decide +kernel, rfl⟩
theorem eX7_findLeaves_3 : Dc cX7_findLeaves 3 (.istore_n 2) 1 4 := ⟨by decide +kernel, rfl⟩
theorem eX7_findLeaves_4 : Dc cX7_findLeaves 4 (.iload_n 2) 1 5 := ⟨by decide +kernel, rfl⟩
theorem eX7_findLeaves_5 : Dc cX7_findLeaves 5 (.aload_n 0) 1 6 := ⟨by decide +kernel, rfl⟩
theorem eX7_findLeaves_6 : Dc cX7_findLeaves 6 (.getfield 69) 3 9 := ⟨by decide +kernel, rfl⟩
theorem eX7_findLeaves_9 : Dc cX7_findLeaves 9 (.if_icmp .ge 69) 3 12 := ⟨by decide +kernel, rfl⟩
theorem eX7_findLeaves_12 : Dc cX7_findLeaves 12 (.iload_n 1) 1 13 := ⟨by decide +kernel, rfl⟩
theorem eX7_findLeaves_13 : Dc cX7_findLeaves 13 (.aload_n 0) 1 14 := ⟨by decide +kernel, rfl⟩
theorem eX7_findLeaves_14 : Dc cX7_findLeaves 14 (.getfield 7) 3 17 := ⟨by decide +kernel, rfl⟩
theorem eX7_findLeaves_17 : Dc cX7_findLeaves 17 (.iload_n 2) 1 18 := ⟨by decide +kernel, rfl⟩
theorem eX7_findLeaves_18 : Dc cX7_findLeaves 18 (.iaload) 1 19 := ⟨by decide +kernel, rfl⟩
theorem eX7_findLeaves_19 : Dc cX7_findLeaves 19 (.aload_n 0) 1 20 := ⟨by decide +kernel, rfl⟩
theorem eX7_findLeaves_20 : Dc cX7_findLeaves 20 (.iload_n 2) 1 21 := ⟨by decide +kernel, rfl⟩
theorem eX7_findLeaves_21 : Dc cX7_findLeaves 21 (.invokevirtual 131) 3 24 := ⟨by decide +kernel, rfl⟩
theorem eX7_findLeaves_24 : Dc cX7_findLeaves 24 (.ifCond .eq 12) 3 27 := ⟨by decide +kernel, rfl⟩
theorem eX7_findLeaves_27 : Dc cX7_findLeaves 27 (.aload_n 0) 1 28 := ⟨by decide +kernel, rfl⟩
theorem eX7_findLeaves_28 : Dc cX7_findLeaves 28 (.getfield 40) 3 31 := ⟨by decide +kernel, rfl⟩
theorem eX7_findLeaves_31 : Dc cX7_findLeaves 31 (.iload_n 2) 1 32 := ⟨by decide +kernel, rfl⟩
theorem eX7_findLeaves_32 : Dc cX7_findLeaves 32 (.iaload) 1 33 := ⟨by decide +kernel, rfl⟩
theorem eX7_findLeaves_33 : Dc cX7_findLeaves 33 (.goto 4) 3 36 := ⟨by decide +kernel, rfl⟩
theorem eX7_findLeaves_36 : Dc cX7_findLeaves 36 (.iconst 0) 1 37 := ⟨by decide +kernel, rfl⟩
theorem eX7_findLeaves_37 : Dc cX7_findLeaves 37 (.iadd) 1 38 := ⟨by decide +kernel, rfl⟩
theorem eX7_findLeaves_38 : Dc cX7_findLeaves 38 (.iadd) 1 39 := ⟨by decide +kernel, rfl⟩
theorem eX7_findLeaves_39 : Dc cX7_findLeaves 39 (.istore_n 1) 1 40 := ⟨by decide +kernel, rfl⟩
theorem eX7_findLeaves_40 : Dc cX7_findLeaves 40 (.aload_n 0) 1 41 := ⟨by decide +kernel, rfl⟩
theorem eX7_findLeaves_41 : Dc cX7_findLeaves 41 (.getfield 43) 3 44 := ⟨by decide +kernel, rfl⟩
theorem eX7_findLeaves_44 : Dc cX7_findLeaves 44 (.iload_n 2) 1 45 := ⟨by decide +kernel, rfl⟩
theorem eX7_findLeaves_45 : Dc cX7_findLeaves 45 (.iload_n 1) 1 46 := ⟨by decide +kernel, rfl⟩
theorem eX7_findLeaves_46 : Dc cX7_findLeaves 46 (.iastore) 1 47 := ⟨by decide +kernel, rfl⟩
theorem eX7_findLeaves_47 : Dc cX7_findLeaves 47 (.iload_n 1) 1 48 := ⟨by decide +kernel, rfl⟩
theorem eX7_findLeaves_48 : Dc cX7_findLeaves 48 (.aload_n 0) 1 49 := ⟨by decide +kernel, rfl⟩
theorem eX7_findLeaves_49 : Dc cX7_findLeaves 49 (.iload_n 2) 1 50 := ⟨by decide +kernel, rfl⟩
theorem eX7_findLeaves_50 : Dc cX7_findLeaves 50 (.invokevirtual 131) 3 53 := ⟨by decide +kernel, rfl⟩
theorem eX7_findLeaves_53 : Dc cX7_findLeaves 53 (.ifCond .ne 12) 3 56 := ⟨by decide +kernel, rfl⟩
theorem eX7_findLeaves_56 : Dc cX7_findLeaves 56 (.aload_n 0) 1 57 := ⟨by decide +kernel, rfl⟩
theorem eX7_findLeaves_57 : Dc cX7_findLeaves 57 (.getfield 7) 3 60 := ⟨by decide +kernel, rfl⟩
theorem eX7_findLeaves_60 : Dc cX7_findLeaves 60 (.iload_n 2) 1 61 := ⟨by decide +kernel, rfl⟩
theorem eX7_findLeaves_61 : Dc cX7_findLeaves 61 (.iaload) 1 62 := ⟨by decide +kernel, rfl⟩
theorem eX7_findLeaves_62 : Dc cX7_findLeaves 62 (.ifCond .ne 7) 3 65 := ⟨by decide +kernel, rfl⟩
theorem eX7_findLeaves_65 : Dc cX7_findLeaves 65 (.iconst 0) 1 66 := ⟨by decide +kernel, rfl⟩
theorem eX7_findLeaves_66 : Dc cX7_findLeaves 66 (.goto 4) 3 69 := ⟨by decide +kernel, rfl⟩
theorem eX7_findLeaves_69 : Dc cX7_findLeaves 69 (.iconst 1) 1 70 := ⟨by decide +kernel, rfl⟩
theorem eX7_findLeaves_70 : Dc cX7_findLeaves 70 (.isub) 1 71 := ⟨by decide +kernel, rfl⟩
theorem eX7_findLeaves_71 : Dc cX7_findLeaves 71 (.istore_n 1) 1 72 := ⟨by decide +kernel, rfl⟩
theorem eX7_findLeaves_72 : Dc cX7_findLeaves 72 (.iinc 2 1) 3 75 := ⟨by decide +kernel, rfl⟩
theorem eX7_findLeaves_75 : Dc cX7_findLeaves 75 (.goto (-71)) 3 78 := ⟨by decide +kernel, rfl⟩
theorem eX7_findLeaves_78 : Dc cX7_findLeaves 78 (.return_) 1 79 := ⟨by decide +kernel, rfl⟩
def fX7_findLeaves_L4   : Nat → Int32 → Int32 → SS → Option (SS)
  | 0, _, _, _ => none
  | n + 1, a1, a2, c => if (c.1 0) ≤ a2 then some c else ald 6 (c.2 1) a2 (fun v2 => jn (fun (x3 : Int32) => ckb 6 a2 (jn (fun (x5 : Int32) => fX7_findLeaves_L4  n ((a1 + (v2 + x3)) - x5) (a2 + (1 : Int32)) (sA c 18 (a2).toNatClampNeg (a1 + (v2 + x3)))) (fun j70 => jn (fun (_ : Unit) => j70 (0 : Int32)) (fun j65 => if (fX7_isOpen (sA c 18 (a2).toNatClampNeg (a1 + (v2 + x3))) a2) = (0 : Int32) then ald 6 (c.2 1) a2 (fun v7 => if v7 = (0 : Int32) then j65 () else j70 (1 : Int32)) else j65 ())))) (fun j37 => if (fX7_isOpen c a2) = (0 : Int32) then j37 (0 : Int32) else ald 6 (c.2 17) a2 (fun v10 => j37 v10)))
def fX7_findLeaves (c : SS)  : Option (SS) := fX7_findLeaves_L4  fu (0 : Int32) (0 : Int32) c
set_option maxRecDepth 20000 in
theorem ctX7_findLeaves_L4 (l : Launch) (G : tg_G) (A : Nat → Nat)   {z : SS}  : ∀ (n : Nat) (a1 : Int32) (a2 : Int32) (c : SS), fX7_findLeaves_L4  n a1 a2 c = some z → V l G (tg_Zm G (fun v w1 => v = none ∧ w1 = wM G A z) 0 0) tg_E0 (tg_R 1 21) "TramGodModel" "findLeaves" cX7_findLeaves 3 none 4 [(0, .ref (A 0)), (1, .int a1), (2, .int a2)] [] (wM G A c) 0 0 := by
  intro n
  induction n with
  | zero => intro a1 a2 c h; exact absurd h (by simp [fX7_findLeaves_L4])
  | succ n ih =>
    intro a1 a2 c h
    unfold fX7_findLeaves_L4 at h
    refine V_iload_n eX7_findLeaves_4 2 rfl ?_
    refine V_aload_n eX7_findLeaves_5 0 rfl ?_
    refine V_get (v := .int (c.1 0)) eX7_findLeaves_6 inX7 0 rfl rfl 0 (Nat.le_of_ble_eq_true rfl) tw_645 rfl ?_
    refine V_icmp_ge (tgt := 78) eX7_findLeaves_9 rfl (fun hb1 => ?_) (fun hb1 => ?_)
    · replace h := (if_pos hb1).symm.trans h
      obtain rfl := Option.some.inj h
      exact V_vret eX7_findLeaves_78 rfl ⟨rfl, rfl⟩
    · replace h := (if_neg hb1).symm.trans h
      refine V_iload_n eX7_findLeaves_12 1 rfl ?_
      refine V_aload_n eX7_findLeaves_13 0 rfl ?_
      refine V_get (v := .ref (A 1)) eX7_findLeaves_14 inX7 0 rfl rfl 1 (Nat.le_of_ble_eq_true rfl) tw_646 rfl ?_
      refine V_iload_n eX7_findLeaves_17 2 rfl ?_
      obtain ⟨v2, hi2, ev2, h⟩ := ald_some h
      refine V_ialdv eX7_findLeaves_18 1 rfl hi2 ev2 ?_
      refine V_aload_n eX7_findLeaves_19 0 rfl ?_
      refine V_iload_n eX7_findLeaves_20 2 rfl ?_
      refine V_callVi (rest := [.int v2, .int a1]) eX7_findLeaves_21 (ctX7_isOpen l G A c a2 rfl) tc_818 tw_815 tw_8 tw_817 ts_24 0 rfl rfl hdX7_isOpen rfl ⟨Nat.le_of_ble_eq_true rfl, Nat.le_of_ble_eq_true rfl⟩ rfl (Nat.le_of_ble_eq_true rfl) ⟨Nat.zero_le _, Nat.zero_le _⟩ ?_
      refine jn_elim h (fun j => ∀ (x3 : Int32), j x3 = some z → V l G (tg_Zm G (fun v w1 => v = none ∧ w1 = wM G A z) 0 0) tg_E0 (tg_R 1 21) "TramGodModel" "findLeaves" cX7_findLeaves 3 none 37 [(0, .ref (A 0)), (2, .int a2)] [.int x3, .int v2, .int a1] (wM G A c) 0 0) ?_ (fun j37 hj37 h => ?_)
      · intro x3 h
        refine V_iadd eX7_findLeaves_37 ?_
        refine V_iadd eX7_findLeaves_38 ?_
        refine V_istore_n (lv' := [(1, .int (a1 + (v2 + x3))), (0, .ref (A 0)), (2, .int a2)]) eX7_findLeaves_39 (Nat.le_of_ble_eq_true rfl) rfl ?_
        refine V_aload_n eX7_findLeaves_40 1 rfl ?_
        refine V_get (v := .ref (A 12)) eX7_findLeaves_41 inX7 0 rfl rfl 18 (Nat.le_of_ble_eq_true rfl) tw_663 rfl ?_
        refine V_iload_n eX7_findLeaves_44 2 rfl ?_
        refine V_iload_n eX7_findLeaves_45 0 rfl ?_
        obtain ⟨hi4, h⟩ := ckb_some h
        refine V_iast (w' := wM G A (sA c 18 (a2).toNatClampNeg (a1 + (v2 + x3)))) eX7_findLeaves_46 12 rfl hi4 rfl ?_
        refine V_iload_n eX7_findLeaves_47 0 rfl ?_
        refine V_aload_n eX7_findLeaves_48 1 rfl ?_
        refine V_iload_n eX7_findLeaves_49 2 rfl ?_
        refine V_callVi (rest := [.int (a1 + (v2 + x3))]) eX7_findLeaves_50 (ctX7_isOpen l G A (sA c 18 (a2).toNatClampNeg (a1 + (v2 + x3))) a2 rfl) tc_818 tw_815 tw_8 tw_817 ts_24 0 rfl rfl hdX7_isOpen rfl ⟨Nat.le_of_ble_eq_true rfl, Nat.le_of_ble_eq_true rfl⟩ rfl (Nat.le_of_ble_eq_true rfl) ⟨Nat.zero_le _, Nat.zero_le _⟩ ?_
        refine jn_elim h (fun j => ∀ (x5 : Int32), j x5 = some z → V l G (tg_Zm G (fun v w1 => v = none ∧ w1 = wM G A z) 0 0) tg_E0 (tg_R 1 21) "TramGodModel" "findLeaves" cX7_findLeaves 3 none 70 [(0, .ref (A 0)), (2, .int a2)] [.int x5, .int (a1 + (v2 + x3))] (wM G A (sA c 18 (a2).toNatClampNeg (a1 + (v2 + x3)))) 0 0) ?_ (fun j70 hj70 h => ?_)
        · intro x5 h
          refine V_isub eX7_findLeaves_70 ?_
          refine V_istore_n (lv' := [(1, .int ((a1 + (v2 + x3)) - x5)), (0, .ref (A 0)), (2, .int a2)]) eX7_findLeaves_71 (Nat.le_of_ble_eq_true rfl) rfl ?_
          refine V_iinc (v := (a2 + (1 : Int32))) (lv' := [(2, .int (a2 + (1 : Int32))), (1, .int ((a1 + (v2 + x3)) - x5)), (0, .ref (A 0))]) eX7_findLeaves_72 2 rfl rfl (Nat.le_of_ble_eq_true rfl) rfl ?_
          refine V_goto (tgt := 4) eX7_findLeaves_75 rfl ?_
          refine V_lv (lv' := [(0, .ref (A 0)), (1, .int ((a1 + (v2 + x3)) - x5)), (2, .int (a2 + (1 : Int32)))]) [2, 1, 0] rfl ?_
          exact ih ((a1 + (v2 + x3)) - x5) (a2 + (1 : Int32)) (sA c 18 (a2).toNatClampNeg (a1 + (v2 + x3))) h
        refine jn_elim h (fun j => j () = some z → V l G (tg_Zm G (fun v w1 => v = none ∧ w1 = wM G A z) 0 0) tg_E0 (tg_R 1 21) "TramGodModel" "findLeaves" cX7_findLeaves 3 none 65 [(0, .ref (A 0)), (2, .int a2)] [.int (a1 + (v2 + x3))] (wM G A (sA c 18 (a2).toNatClampNeg (a1 + (v2 + x3)))) 0 0) ?_ (fun j65 hj65 h => ?_)
        · intro h
          refine V_iconst (v := (0 : Int32)) eX7_findLeaves_65 rfl ?_
          refine V_goto (tgt := 70) eX7_findLeaves_66 rfl ?_
          exact hj70 (0 : Int32) h
        refine V_if_ne (tgt := 65) eX7_findLeaves_53 rfl (fun hb6 => ?_) (fun hb6 => ?_)
        · replace h := (if_neg hb6).symm.trans h
          refine V_lv (lv' := [(0, .ref (A 0)), (2, .int a2)]) [1, 2] rfl ?_
          exact hj65 h
        · replace h := (if_pos hb6).symm.trans h
          refine V_aload_n eX7_findLeaves_56 1 rfl ?_
          refine V_get (v := .ref (A 1)) eX7_findLeaves_57 inX7 0 rfl rfl 1 (Nat.le_of_ble_eq_true rfl) tw_646 rfl ?_
          refine V_iload_n eX7_findLeaves_60 2 rfl ?_
          obtain ⟨v7, hi7, ev7, h⟩ := ald_some h
          refine V_ialdv eX7_findLeaves_61 1 rfl hi7 ev7 ?_
          refine V_if_ne (tgt := 69) eX7_findLeaves_62 rfl (fun hb8 => ?_) (fun hb8 => ?_)
          · replace h := (if_neg hb8).symm.trans h
            refine V_iconst (v := (1 : Int32)) eX7_findLeaves_69 rfl ?_
            refine V_lv (lv' := [(0, .ref (A 0)), (2, .int a2)]) [1, 2] rfl ?_
            exact hj70 (1 : Int32) h
          · replace h := (if_pos hb8).symm.trans h
            refine V_lv (lv' := [(0, .ref (A 0)), (2, .int a2)]) [1, 2] rfl ?_
            exact hj65 h
      refine V_if_eq (tgt := 36) eX7_findLeaves_24 rfl (fun hb9 => ?_) (fun hb9 => ?_)
      · replace h := (if_pos hb9).symm.trans h
        refine V_iconst (v := (0 : Int32)) eX7_findLeaves_36 rfl ?_
        refine V_lv (lv' := [(0, .ref (A 0)), (2, .int a2)]) [0, 2] rfl ?_
        exact hj37 (0 : Int32) h
      · replace h := (if_neg hb9).symm.trans h
        refine V_aload_n eX7_findLeaves_27 0 rfl ?_
        refine V_get (v := .ref (A 11)) eX7_findLeaves_28 inX7 0 rfl rfl 17 (Nat.le_of_ble_eq_true rfl) tw_662 rfl ?_
        refine V_iload_n eX7_findLeaves_31 2 rfl ?_
        obtain ⟨v10, hi10, ev10, h⟩ := ald_some h
        refine V_ialdv eX7_findLeaves_32 11 rfl hi10 ev10 ?_
        refine V_goto (tgt := 37) eX7_findLeaves_33 rfl ?_
        refine V_lv (lv' := [(0, .ref (A 0)), (2, .int a2)]) [0, 2] rfl ?_
        exact hj37 v10 h
set_option maxRecDepth 20000 in
theorem ctX7_findLeaves (l : Launch) (G : tg_G) (A : Nat → Nat) (c : SS)  {z : SS} (h : fX7_findLeaves c  = some z) : Mt l G yX7_findLeaves cX7_findLeaves 3 none (tg_R 1 21) [.ref (A 0)] (wM G A c) (fun v w1 => v = none ∧ w1 = wM G A z) := by
  refine Mt_of2 (own := "TramGodModel") (nm := "findLeaves") rfl rfl rfl (Nat.le_of_ble_eq_true rfl) (lv := [(0, .ref (A 0))]) rfl ?_
  unfold fX7_findLeaves at h
  refine V_iconst (v := (0 : Int32)) eX7_findLeaves_0 rfl ?_
  refine V_istore_n (lv' := [(1, .int (0 : Int32)), (0, .ref (A 0))]) eX7_findLeaves_1 (Nat.le_of_ble_eq_true rfl) rfl ?_
  refine V_iconst (v := (0 : Int32)) eX7_findLeaves_2 rfl ?_
  refine V_istore_n (lv' := [(2, .int (0 : Int32)), (1, .int (0 : Int32)), (0, .ref (A 0))]) eX7_findLeaves_3 (Nat.le_of_ble_eq_true rfl) rfl ?_
  refine V_lv (lv' := [(0, .ref (A 0)), (1, .int (0 : Int32)), (2, .int (0 : Int32))]) [2, 1, 0] rfl ?_
  refine ctX7_findLeaves_L4 l G A fu (0 : Int32) (0 : Int32) c h
theorem hdX7_rides : yX7_rides.cls ≠ "java/lang/invoke/MethodHandle" ∧ yX7_rides.cls ≠ "java/lang/invoke/VarHandle" ∧ (parseMethodDescriptor yX7_rides.desc).map (fun d => d.parameters.length) = some 2 := by decide +kernel
theorem eX7_rides_0 : Dc cX7_rides 0 (.aload_n 0) 1 1 := ⟨by decide +kernel, rfl⟩
theorem eX7_rides_1 : Dc cX7_rides 1 (.aload_n 0) 1 2 := ⟨by decide +kernel, rfl⟩
theorem eX7_rides_2 : Dc cX7_rides 2 (.getfield 13) 3 5 := ⟨by decide +kernel, rfl⟩
theorem eX7_rides_5 : Dc cX7_rides 5 (.iload_n 1) 1 6 := ⟨by decide +kernel, rfl⟩
theorem eX7_rides_6 : Dc cX7_rides 6 (.iaload) 1 7 := ⟨by decide +kernel, rfl⟩
theorem eX7_rides_7 : Dc cX7_rides 7 (.invokevirtual 131) 3 10 := ⟨by decide +kernel, rfl⟩
theorem eX7_rides_10 : Dc cX7_rides 10 (.ifCond .eq 29) 3 13 := ⟨by decide +kernel, rfl⟩
theorem eX7_rides_13 : Dc cX7_rides 13 (.aload_n 0) 1 14 := ⟨by decide +kernel, rfl⟩
theorem eX7_rides_14 : Dc cX7_rides 14 (.getfield 16) 3 17 := ⟨by decide +kernel, rfl⟩
theorem eX7_rides_17 : Dc cX7_rides 17 (.iload_n 1) 1 18 := ⟨by decide +kernel, rfl⟩
theorem eX7_rides_18 : Dc cX7_rides 18 (.iaload) 1 19 := ⟨by decide +kernel, rfl⟩
theorem eX7_rides_19 : Dc cX7_rides 19 (.iload_n 2) 1 20 := ⟨by decide +kernel, rfl⟩
theorem eX7_rides_20 : Dc cX7_rides 20 (.iadd) 1 21 := ⟨by decide +kernel, rfl⟩
theorem eX7_rides_21 : Dc cX7_rides 21 (.aload_n 0) 1 22 := ⟨by decide +kernel, rfl⟩
theorem eX7_rides_22 : Dc cX7_rides 22 (.getfield 43) 3 25 := ⟨by decide +kernel, rfl⟩
theorem eX7_rides_25 : Dc cX7_rides 25 (.aload_n 0) 1 26 := ⟨by decide +kernel, rfl⟩
theorem eX7_rides_26 : Dc cX7_rides 26 (.getfield 13) 3 29 := ⟨by decide +kernel, rfl⟩
theorem eX7_rides_29 : Dc cX7_rides 29 (.iload_n 1) 1 30 := ⟨by decide +kernel, rfl⟩
theorem eX7_rides_30 : Dc cX7_rides 30 (.iaload) 1 31 := ⟨by decide +kernel, rfl⟩
theorem eX7_rides_31 : Dc cX7_rides 31 (.iaload) 1 32 := ⟨by decide +kernel, rfl⟩
theorem eX7_rides_32 : Dc cX7_rides 32 (.if_icmp .gt 7) 3 35 := ⟨by decide +kernel, rfl⟩
theorem eX7_rides_35 : Dc cX7_rides 35 (.iconst 1) 1 36 := ⟨by decide +kernel, rfl⟩
theorem eX7_rides_36 : Dc cX7_rides 36 (.goto 4) 3 39 := ⟨by decide +kernel, rfl⟩
theorem eX7_rides_39 : Dc cX7_rides 39 (.iconst 0) 1 40 := ⟨by decide +kernel, rfl⟩
theorem eX7_rides_40 : Dc cX7_rides 40 (.ireturn) 1 41 := ⟨by decide +kernel, rfl⟩
def fX7_rides (c : SS) (p1 : Int32) (p2 : Int32) : Option (Int32) := ald 8 (c.2 4) p1 (fun v1 => if (fX7_isOpen c v1) = (0 : Int32) then some (0 : Int32) else ald 8 (c.2 5) p1 (fun v3 => ald 8 (c.2 4) p1 (fun v4 => ald 6 (c.2 18) v4 (fun v5 => if v5 < (v3 + p2) then some (0 : Int32) else some (1 : Int32)))))
set_option maxRecDepth 20000 in
theorem ctX7_rides (l : Launch) (G : tg_G) (A : Nat → Nat) (c : SS) (p1 : Int32) (p2 : Int32) {z : Int32} (h : fX7_rides c p1 p2 = some z) : Mt l G yX7_rides cX7_rides 3 (some .boolean) (tg_R 1 21) [.ref (A 0), .int p1, .int p2] (wM G A c) (fun v w1 => v = some (.int z) ∧ w1 = wM G A c) := by
  refine Mt_of2 (own := "TramGodModel") (nm := "rides") rfl rfl rfl (Nat.le_of_ble_eq_true rfl) (lv := [(0, .ref (A 0)), (1, .int p1), (2, .int p2)]) rfl ?_
  unfold fX7_rides at h
  refine V_aload_n eX7_rides_0 0 rfl ?_
  refine V_aload_n eX7_rides_1 0 rfl ?_
  refine V_get (v := .ref (A 2)) eX7_rides_2 inX7 0 rfl rfl 4 (Nat.le_of_ble_eq_true rfl) tw_649 rfl ?_
  refine V_iload_n eX7_rides_5 1 rfl ?_
  obtain ⟨v1, hi1, ev1, h⟩ := ald_some h
  refine V_ialdv eX7_rides_6 2 rfl hi1 ev1 ?_
  refine V_callVi (rest := []) eX7_rides_7 (ctX7_isOpen l G A c v1 rfl) tc_818 tw_815 tw_8 tw_817 ts_24 0 rfl rfl hdX7_isOpen rfl ⟨Nat.le_of_ble_eq_true rfl, Nat.le_of_ble_eq_true rfl⟩ rfl (Nat.le_of_ble_eq_true rfl) ⟨Nat.zero_le _, Nat.zero_le _⟩ ?_
  refine V_if_eq (tgt := 39) eX7_rides_10 rfl (fun hb2 => ?_) (fun hb2 => ?_)
  · replace h := (if_pos hb2).symm.trans h
    refine V_iconst (v := (0 : Int32)) eX7_rides_39 rfl ?_
    obtain rfl := Option.some.inj h
    exact V_zret eX7_rides_40 rfl rfl ⟨rfl, rfl⟩
  · replace h := (if_neg hb2).symm.trans h
    refine V_aload_n eX7_rides_13 0 rfl ?_
    refine V_get (v := .ref (A 3)) eX7_rides_14 inX7 0 rfl rfl 5 (Nat.le_of_ble_eq_true rfl) tw_650 rfl ?_
    refine V_iload_n eX7_rides_17 1 rfl ?_
    obtain ⟨v3, hi3, ev3, h⟩ := ald_some h
    refine V_ialdv eX7_rides_18 3 rfl hi3 ev3 ?_
    refine V_iload_n eX7_rides_19 2 rfl ?_
    refine V_iadd eX7_rides_20 ?_
    refine V_aload_n eX7_rides_21 0 rfl ?_
    refine V_get (v := .ref (A 12)) eX7_rides_22 inX7 0 rfl rfl 18 (Nat.le_of_ble_eq_true rfl) tw_663 rfl ?_
    refine V_aload_n eX7_rides_25 0 rfl ?_
    refine V_get (v := .ref (A 2)) eX7_rides_26 inX7 0 rfl rfl 4 (Nat.le_of_ble_eq_true rfl) tw_649 rfl ?_
    refine V_iload_n eX7_rides_29 1 rfl ?_
    obtain ⟨v4, hi4, ev4, h⟩ := ald_some h
    refine V_ialdv eX7_rides_30 2 rfl hi4 ev4 ?_
    obtain ⟨v5, hi5, ev5, h⟩ := ald_some h
    refine V_ialdv eX7_rides_31 12 rfl hi5 ev5 ?_
    refine V_icmp_gt (tgt := 39) eX7_rides_32 rfl (fun hb6 => ?_) (fun hb6 => ?_)
    · replace h := (if_pos hb6).symm.trans h
      refine V_iconst (v := (0 : Int32)) eX7_rides_39 rfl ?_
      obtain rfl := Option.some.inj h
      exact V_zret eX7_rides_40 rfl rfl ⟨rfl, rfl⟩
    · replace h := (if_neg hb6).symm.trans h
      refine V_iconst (v := (1 : Int32)) eX7_rides_35 rfl ?_
      refine V_goto (tgt := 40) eX7_rides_36 rfl ?_
      obtain rfl := Option.some.inj h
      exact V_zret eX7_rides_40 rfl rfl ⟨rfl, rfl⟩
theorem hdX7_ridersNow : yX7_ridersNow.cls ≠ "java/lang/invoke/MethodHandle" ∧ yX7_ridersNow.cls ≠ "java/lang/invoke/VarHandle" ∧ (parseMethodDescriptor yX7_ridersNow.desc).map (fun d => d.parameters.length) = some 0 := by decide +kernel
theorem eX7_ridersNow_0 : Dc cX7_ridersNow 0 (.aload_n 0) 1 1 := ⟨by decide +kernel, rfl⟩
theorem eX7_ridersNow_1 : Dc cX7_ridersNow 1 (.invokevirtual 134) 3 4 := ⟨by decide +kernel, rfl⟩
theorem eX7_ridersNow_4 : Dc cX7_ridersNow 4 (.iconst 0) 1 5 := ⟨by decide +kernel, rfl⟩
theorem eX7_ridersNow_5 : Dc cX7_ridersNow 5 (.istore_n 1) 1 6 := ⟨by decide +kernel, rfl⟩
theorem eX7_ridersNow_6 : Dc cX7_ridersNow 6 (.iconst 0) 1 7 := ⟨by decide +kernel, rfl⟩
theorem eX7_ridersNow_7 : Dc cX7_ridersNow 7 (.istore_n 2) 1 8 := ⟨by decide +kernel, rfl⟩
theorem eX7_ridersNow_8 : Dc cX7_ridersNow 8 (.iload_n 2) 1 9 := ⟨by decide +kernel, rfl⟩
theorem eX7_ridersNow_9 : Dc cX7_ridersNow 9 (.bipush 8) 2 11 := ⟨by decide +kernel, rfl⟩
theorem eX7_ridersNow_11 : Dc cX7_ridersNow 11 (.if_icmp .ge 36) 3 14 := ⟨by decide +kernel, rfl⟩
theorem eX7_ridersNow_14 : Dc cX7_ridersNow 14 (.iload_n 1) 1 15 := ⟨by decide +kernel, rfl⟩
theorem eX7_ridersNow_15 : Dc cX7_ridersNow 15 (.aload_n 0) 1 16 := ⟨by decide +kernel, rfl⟩
theorem eX7_ridersNow_16 : Dc cX7_ridersNow 16 (.iload_n 2) 1 17 := ⟨by decide +kernel, rfl⟩
theorem eX7_ridersNow_17 : Dc cX7_ridersNow 17 (.invokevirtual 126) 3 20 := ⟨by decide +kernel, rfl⟩
theorem eX7_ridersNow_20 : Dc cX7_ridersNow 20 (.ifCond .eq 18) 3 23 := ⟨by decide +kernel, rfl⟩
theorem eX7_ridersNow_23 : Dc cX7_ridersNow 23 (.aload_n 0) 1 24 := ⟨by decide +kernel, rfl⟩
theorem eX7_ridersNow_24 : Dc cX7_ridersNow 24 (.iload_n 2) 1 25 := ⟨by decide +kernel, rfl⟩
theorem eX7_ridersNow_25 : Dc cX7_ridersNow 25 (.iconst 0) 1 26 := ⟨by decide +kernel, rfl⟩
theorem eX7_ridersNow_26 : Dc cX7_ridersNow 26 (.invokevirtual 137) 3 29 := ⟨by decide +kernel, rfl⟩
theorem eX7_ridersNow_29 : Dc cX7_ridersNow 29 (.ifCond .eq 9) 3 32 := ⟨by decide +kernel, rfl⟩
theorem eX7_ridersNow_32 : Dc cX7_ridersNow 32 (.iconst 1) 1 33 := ⟨by decide +kernel, rfl⟩
theorem eX7_ridersNow_33 : Dc cX7_ridersNow 33 (.iload_n 2) 1 34 := ⟨by decide +kernel, rfl⟩
theorem eX7_ridersNow_34 : Dc cX7_ridersNow 34 (.ishl) 1 35 := ⟨by decide +kernel, rfl⟩
theorem eX7_ridersNow_35 : Dc cX7_ridersNow 35 (.goto 4) 3 38 := ⟨by decide +kernel, rfl⟩
theorem eX7_ridersNow_38 : Dc cX7_ridersNow 38 (.iconst 0) 1 39 := ⟨by decide +kernel, rfl⟩
theorem eX7_ridersNow_39 : Dc cX7_ridersNow 39 (.ior) 1 40 := ⟨by decide +kernel, rfl⟩
theorem eX7_ridersNow_40 : Dc cX7_ridersNow 40 (.istore_n 1) 1 41 := ⟨by decide +kernel, rfl⟩
theorem eX7_ridersNow_41 : Dc cX7_ridersNow 41 (.iinc 2 1) 3 44 := ⟨by decide +kernel, rfl⟩
theorem eX7_ridersNow_44 : Dc cX7_ridersNow 44 (.goto (-36)) 3 47 := ⟨by decide +kernel, rfl⟩
theorem eX7_ridersNow_47 : Dc cX7_ridersNow 47 (.iload_n 1) 1 48 := ⟨by decide +kernel, rfl⟩
theorem eX7_ridersNow_48 : Dc cX7_ridersNow 48 (.ireturn) 1 49 := ⟨by decide +kernel, rfl⟩
def fX7_ridersNow_L8  (c : SS)  : Nat → Int32 → Int32 → Option (Int32 × SS)
  | 0, _, _ => none
  | n + 1, a1, a2 => if (8 : Int32) ≤ a2 then some (a1, c) else jn (fun (x3 : Int32) => fX7_ridersNow_L8 c n (a1 ||| x3) (a2 + (1 : Int32))) (fun j39 => jn (fun (_ : Unit) => j39 (0 : Int32)) (fun j38 => if (fX7_isThere c a2) = (0 : Int32) then j38 () else Option.bind (fX7_rides c a2 (0 : Int32)) (fun q5 => if q5 = (0 : Int32) then j38 () else j39 ((1 : Int32) <<< (a2 &&& 31)))))
def fX7_ridersNow (c : SS)  : Option (Int32 × SS) := Option.bind (fX7_findLeaves c) (fun q1 => fX7_ridersNow_L8 q1 fu (0 : Int32) (0 : Int32))
set_option maxRecDepth 20000 in
theorem ctX7_ridersNow_L8 (l : Launch) (G : tg_G) (A : Nat → Nat)  (c : SS)  {z : Int32 × SS}  : ∀ (n : Nat) (a1 : Int32) (a2 : Int32), fX7_ridersNow_L8 c n a1 a2 = some z → V l G (tg_Zm G (fun v w1 => v = some (.int z.1) ∧ w1 = wM G A z.2) 0 0) tg_E0 (tg_R 2 46) "TramGodModel" "ridersNow" cX7_ridersNow 3 (some .int) 8 [(0, .ref (A 0)), (1, .int a1), (2, .int a2)] [] (wM G A c) 0 0 := by
  intro n
  induction n with
  | zero => intro a1 a2 h; exact absurd h (by simp [fX7_ridersNow_L8])
  | succ n ih =>
    intro a1 a2 h
    unfold fX7_ridersNow_L8 at h
    refine V_iload_n eX7_ridersNow_8 2 rfl ?_
    refine V_bipush (v := (8 : Int32)) eX7_ridersNow_9 rfl ?_
    refine V_icmp_ge (tgt := 47) eX7_ridersNow_11 rfl (fun hb2 => ?_) (fun hb2 => ?_)
    · replace h := (if_pos hb2).symm.trans h
      refine V_iload_n eX7_ridersNow_47 1 rfl ?_
      obtain rfl := Option.some.inj h
      exact V_ret eX7_ridersNow_48 rfl ⟨rfl, rfl⟩
    · replace h := (if_neg hb2).symm.trans h
      refine V_iload_n eX7_ridersNow_14 1 rfl ?_
      refine V_aload_n eX7_ridersNow_15 0 rfl ?_
      refine V_iload_n eX7_ridersNow_16 2 rfl ?_
      refine V_callVi (rest := [.int a1]) eX7_ridersNow_17 (ctX7_isThere l G A c a2 rfl) tc_796 tw_793 tw_8 tw_795 ts_22 0 rfl rfl hdX7_isThere rfl ⟨Nat.le_of_ble_eq_true rfl, Nat.le_of_ble_eq_true rfl⟩ rfl (Nat.le_of_ble_eq_true rfl) ⟨Nat.zero_le _, Nat.zero_le _⟩ ?_
      refine jn_elim h (fun j => ∀ (x3 : Int32), j x3 = some z → V l G (tg_Zm G (fun v w1 => v = some (.int z.1) ∧ w1 = wM G A z.2) 0 0) tg_E0 (tg_R 2 46) "TramGodModel" "ridersNow" cX7_ridersNow 3 (some .int) 39 [(0, .ref (A 0)), (2, .int a2)] [.int x3, .int a1] (wM G A c) 0 0) ?_ (fun j39 hj39 h => ?_)
      · intro x3 h
        refine V_ior eX7_ridersNow_39 ?_
        refine V_istore_n (lv' := [(1, .int (a1 ||| x3)), (0, .ref (A 0)), (2, .int a2)]) eX7_ridersNow_40 (Nat.le_of_ble_eq_true rfl) rfl ?_
        refine V_iinc (v := (a2 + (1 : Int32))) (lv' := [(2, .int (a2 + (1 : Int32))), (1, .int (a1 ||| x3)), (0, .ref (A 0))]) eX7_ridersNow_41 2 rfl rfl (Nat.le_of_ble_eq_true rfl) rfl ?_
        refine V_goto (tgt := 8) eX7_ridersNow_44 rfl ?_
        refine V_lv (lv' := [(0, .ref (A 0)), (1, .int (a1 ||| x3)), (2, .int (a2 + (1 : Int32)))]) [2, 1, 0] rfl ?_
        exact ih (a1 ||| x3) (a2 + (1 : Int32)) h
      refine jn_elim h (fun j => j () = some z → V l G (tg_Zm G (fun v w1 => v = some (.int z.1) ∧ w1 = wM G A z.2) 0 0) tg_E0 (tg_R 2 46) "TramGodModel" "ridersNow" cX7_ridersNow 3 (some .int) 38 [(0, .ref (A 0)), (2, .int a2)] [.int a1] (wM G A c) 0 0) ?_ (fun j38 hj38 h => ?_)
      · intro h
        refine V_iconst (v := (0 : Int32)) eX7_ridersNow_38 rfl ?_
        exact hj39 (0 : Int32) h
      refine V_if_eq (tgt := 38) eX7_ridersNow_20 rfl (fun hb4 => ?_) (fun hb4 => ?_)
      · replace h := (if_pos hb4).symm.trans h
        refine V_lv (lv' := [(0, .ref (A 0)), (2, .int a2)]) [0, 2] rfl ?_
        exact hj38 h
      · replace h := (if_neg hb4).symm.trans h
        refine V_aload_n eX7_ridersNow_23 0 rfl ?_
        refine V_iload_n eX7_ridersNow_24 2 rfl ?_
        refine V_iconst (v := (0 : Int32)) eX7_ridersNow_25 rfl ?_
        obtain ⟨q5, hc5, h⟩ := Option.bind_eq_some_iff.mp h
        refine V_callVi (rest := [.int a1]) eX7_ridersNow_26 (ctX7_rides l G A c a2 (0 : Int32) hc5) tc_838 tw_835 tw_8 tw_837 ts_28 0 rfl rfl hdX7_rides rfl ⟨Nat.le_of_ble_eq_true rfl, Nat.le_of_ble_eq_true rfl⟩ rfl (Nat.le_of_ble_eq_true rfl) ⟨Nat.zero_le _, Nat.zero_le _⟩ ?_
        refine V_if_eq (tgt := 38) eX7_ridersNow_29 rfl (fun hb6 => ?_) (fun hb6 => ?_)
        · replace h := (if_pos hb6).symm.trans h
          refine V_lv (lv' := [(0, .ref (A 0)), (2, .int a2)]) [0, 2] rfl ?_
          exact hj38 h
        · replace h := (if_neg hb6).symm.trans h
          refine V_iconst (v := (1 : Int32)) eX7_ridersNow_32 rfl ?_
          refine V_iload_n eX7_ridersNow_33 2 rfl ?_
          refine V_ishl eX7_ridersNow_34 ?_
          refine V_goto (tgt := 39) eX7_ridersNow_35 rfl ?_
          refine V_lv (lv' := [(0, .ref (A 0)), (2, .int a2)]) [0, 2] rfl ?_
          exact hj39 ((1 : Int32) <<< (a2 &&& 31)) h
set_option maxRecDepth 20000 in
theorem ctX7_ridersNow (l : Launch) (G : tg_G) (A : Nat → Nat) (c : SS)  {z : Int32 × SS} (h : fX7_ridersNow c  = some z) : Mt l G yX7_ridersNow cX7_ridersNow 3 (some .int) (tg_R 2 46) [.ref (A 0)] (wM G A c) (fun v w1 => v = some (.int z.1) ∧ w1 = wM G A z.2) := by
  refine Mt_of2 (own := "TramGodModel") (nm := "ridersNow") rfl rfl rfl (Nat.le_of_ble_eq_true rfl) (lv := [(0, .ref (A 0))]) rfl ?_
  unfold fX7_ridersNow at h
  refine V_aload_n eX7_ridersNow_0 0 rfl ?_
  obtain ⟨q1, hc1, h⟩ := Option.bind_eq_some_iff.mp h
  refine V_callVv (rest := []) eX7_ridersNow_1 (ctX7_findLeaves l G A c hc1) tc_834 tw_831 tw_8 tw_833 ts_27 0 rfl rfl hdX7_findLeaves rfl ⟨Nat.le_of_ble_eq_true rfl, Nat.le_of_ble_eq_true rfl⟩ rfl (Nat.le_of_ble_eq_true rfl) ⟨Nat.zero_le _, Nat.zero_le _⟩ ?_
  refine V_iconst (v := (0 : Int32)) eX7_ridersNow_4 rfl ?_
  refine V_istore_n (lv' := [(1, .int (0 : Int32)), (0, .ref (A 0))]) eX7_ridersNow_5 (Nat.le_of_ble_eq_true rfl) rfl ?_
  refine V_iconst (v := (0 : Int32)) eX7_ridersNow_6 rfl ?_
  refine V_istore_n (lv' := [(2, .int (0 : Int32)), (1, .int (0 : Int32)), (0, .ref (A 0))]) eX7_ridersNow_7 (Nat.le_of_ble_eq_true rfl) rfl ?_
  refine V_lv (lv' := [(0, .ref (A 0)), (1, .int (0 : Int32)), (2, .int (0 : Int32))]) [2, 1, 0] rfl ?_
  refine ctX7_ridersNow_L8 l G A q1 fu (0 : Int32) (0 : Int32) h
theorem hdX7_riders : yX7_riders.cls ≠ "java/lang/invoke/MethodHandle" ∧ yX7_riders.cls ≠ "java/lang/invoke/VarHandle" ∧ (parseMethodDescriptor yX7_riders.desc).map (fun d => d.parameters.length) = some 0 := by decide +kernel
theorem eX7_riders_0 : Dc cX7_riders 0 (.aload_n 0) 1 1 := ⟨by decide +kernel, rfl⟩
theorem eX7_riders_1 : Dc cX7_riders 1 (.invokevirtual 153) 3 4 := ⟨by decide +kernel, rfl⟩
theorem eX7_riders_4 : Dc cX7_riders 4 (.ifCond .eq 8) 3 7 := ⟨by decide +kernel, rfl⟩
theorem eX7_riders_7 : Dc cX7_riders 7 (.bipush (-5)) 2 9 := ⟨by decide +kernel, rfl⟩
theorem eX7_riders_9 : Dc cX7_riders 9 (.goto 7) 3 12 := ⟨by decide +kernel, rfl⟩
theorem eX7_riders_12 : Dc cX7_riders 12 (.aload_n 0) 1 13 := ⟨by decide +kernel, rfl⟩
theorem eX7_riders_13 : Dc cX7_riders 13 (.invokevirtual 157) 3 16 := ⟨by decide +kernel, rfl⟩
theorem eX7_riders_16 : Dc cX7_riders 16 (.ireturn) 1 17 := ⟨by decide +kernel, rfl⟩
def fX7_riders (c : SS)  : Option (Int32 × SS) := Option.bind (fX7_isRefused c) (fun q1 => if q1.1 = (0 : Int32) then Option.bind (fX7_ridersNow q1.2) (fun q3 => some (q3.1, q3.2)) else some ((-5 : Int32), q1.2))
set_option maxRecDepth 20000 in
theorem ctX7_riders (l : Launch) (G : tg_G) (A : Nat → Nat) (c : SS)  {z : Int32 × SS} (h : fX7_riders c  = some z) : Mt l G yX7_riders cX7_riders 1 (some .int) (tg_R 4 89) [.ref (A 0)] (wM G A c) (fun v w1 => v = some (.int z.1) ∧ w1 = wM G A z.2) := by
  refine Mt_of2 (own := "TramGodModel") (nm := "riders") rfl rfl rfl (Nat.le_of_ble_eq_true rfl) (lv := [(0, .ref (A 0))]) rfl ?_
  unfold fX7_riders at h
  refine V_aload_n eX7_riders_0 0 rfl ?_
  obtain ⟨q1, hc1, h⟩ := Option.bind_eq_some_iff.mp h
  refine V_callVi (rest := []) eX7_riders_1 (ctX7_isRefused l G A c hc1) tc_826 tw_823 tw_8 tw_825 ts_25 0 rfl rfl hdX7_isRefused rfl ⟨Nat.le_of_ble_eq_true rfl, Nat.le_of_ble_eq_true rfl⟩ rfl (Nat.le_of_ble_eq_true rfl) ⟨Nat.zero_le _, Nat.zero_le _⟩ ?_
  refine V_if_eq (tgt := 12) eX7_riders_4 rfl (fun hb2 => ?_) (fun hb2 => ?_)
  · replace h := (if_pos hb2).symm.trans h
    refine V_aload_n eX7_riders_12 0 rfl ?_
    obtain ⟨q3, hc3, h⟩ := Option.bind_eq_some_iff.mp h
    refine V_callVi (rest := []) eX7_riders_13 (ctX7_ridersNow l G A q1.2 hc3) tc_830 tw_827 tw_8 tw_829 ts_26 0 rfl rfl hdX7_ridersNow rfl ⟨Nat.le_of_ble_eq_true rfl, Nat.le_of_ble_eq_true rfl⟩ rfl (Nat.le_of_ble_eq_true rfl) ⟨Nat.zero_le _, Nat.zero_le _⟩ ?_
    obtain rfl := Option.some.inj h
    exact V_ret eX7_riders_16 rfl ⟨rfl, rfl⟩
  · replace h := (if_neg hb2).symm.trans h
    refine V_bipush (v := (-5 : Int32)) eX7_riders_7 rfl ?_
    refine V_goto (tgt := 16) eX7_riders_9 rfl ?_
    obtain rfl := Option.some.inj h
    exact V_ret eX7_riders_16 rfl ⟨rfl, rfl⟩
theorem hdX7_othersOf : yX7_othersOf.cls ≠ "java/lang/invoke/MethodHandle" ∧ yX7_othersOf.cls ≠ "java/lang/invoke/VarHandle" ∧ (parseMethodDescriptor yX7_othersOf.desc).map (fun d => d.parameters.length) = some 1 := by decide +kernel
theorem eX7_othersOf_0 : Dc cX7_othersOf 0 (.iconst 0) 1 1 := ⟨by decide +kernel, rfl⟩
theorem eX7_othersOf_1 : Dc cX7_othersOf 1 (.istore_n 2) 1 2 := ⟨by decide +kernel, rfl⟩
theorem eX7_othersOf_2 : Dc cX7_othersOf 2 (.iconst 0) 1 3 := ⟨by decide +kernel, rfl⟩
theorem eX7_othersOf_3 : Dc cX7_othersOf 3 (.istore_n 3) 1 4 := ⟨by decide +kernel, rfl⟩
theorem eX7_othersOf_4 : Dc cX7_othersOf 4 (.iload_n 3) 1 5 := ⟨by decide +kernel, rfl⟩
theorem eX7_othersOf_5 : Dc cX7_othersOf 5 (.bipush 8) 2 7 := ⟨by decide +kernel, rfl⟩
theorem eX7_othersOf_7 : Dc cX7_othersOf 7 (.if_icmp .ge 31) 3 10 := ⟨by decide +kernel, rfl⟩
theorem eX7_othersOf_10 : Dc cX7_othersOf 10 (.iload_n 2) 1 11 := ⟨by decide +kernel, rfl⟩
theorem eX7_othersOf_11 : Dc cX7_othersOf 11 (.iload_n 1) 1 12 := ⟨by decide +kernel, rfl⟩
theorem eX7_othersOf_12 : Dc cX7_othersOf 12 (.iload_n 3) 1 13 := ⟨by decide +kernel, rfl⟩
theorem eX7_othersOf_13 : Dc cX7_othersOf 13 (.ishr) 1 14 := ⟨by decide +kernel, rfl⟩
theorem eX7_othersOf_14 : Dc cX7_othersOf 14 (.iconst 1) 1 15 := ⟨by decide +kernel, rfl⟩
theorem eX7_othersOf_15 : Dc cX7_othersOf 15 (.iand) 1 16 := ⟨by decide +kernel, rfl⟩
theorem eX7_othersOf_16 : Dc cX7_othersOf 16 (.iconst 1) 1 17 := ⟨by decide +kernel, rfl⟩
theorem eX7_othersOf_17 : Dc cX7_othersOf 17 (.if_icmp .ne 12) 3 20 := ⟨by decide +kernel, rfl⟩
theorem eX7_othersOf_20 : Dc cX7_othersOf 20 (.aload_n 0) 1 21 := ⟨by decide +kernel, rfl⟩
theorem eX7_othersOf_21 : Dc cX7_othersOf 21 (.getfield 25) 3 24 := ⟨by decide +kernel, rfl⟩
theorem eX7_othersOf_24 : Dc cX7_othersOf 24 (.iload_n 3) 1 25 := ⟨by decide +kernel, rfl⟩
theorem eX7_othersOf_25 : Dc cX7_othersOf 25 (.iaload) 1 26 := ⟨by decide +kernel, rfl⟩
theorem eX7_othersOf_26 : Dc cX7_othersOf 26 (.goto 4) 3 29 := ⟨by decide +kernel, rfl⟩
theorem eX7_othersOf_29 : Dc cX7_othersOf 29 (.iconst 0) 1 30 := ⟨by decide +kernel, rfl⟩
theorem eX7_othersOf_30 : Dc cX7_othersOf 30 (.iadd) 1 31 := ⟨by decide +kernel, rfl⟩
theorem eX7_othersOf_31 : Dc cX7_othersOf 31 (.istore_n 2) 1 32 := ⟨by decide +kernel, rfl⟩
theorem eX7_othersOf_32 : Dc cX7_othersOf 32 (.iinc 3 1) 3 35 := ⟨by decide +kernel, rfl⟩
theorem eX7_othersOf_35 : Dc cX7_othersOf 35 (.goto (-31)) 3 38 := ⟨by decide +kernel, rfl⟩
theorem eX7_othersOf_38 : Dc cX7_othersOf 38 (.iload_n 2) 1 39 := ⟨by decide +kernel, rfl⟩
theorem eX7_othersOf_39 : Dc cX7_othersOf 39 (.ireturn) 1 40 := ⟨by decide +kernel, rfl⟩
def fX7_othersOf_L4  (c : SS) (a1 : Int32) : Nat → Int32 → Int32 → Option (Int32)
  | 0, _, _ => none
  | n + 1, a2, a3 => if (8 : Int32) ≤ a3 then some a2 else jn (fun (x2 : Int32) => fX7_othersOf_L4 c a1 n (a2 + x2) (a3 + (1 : Int32))) (fun j30 => if ((a1 >>> (a3 &&& 31)) &&& (1 : Int32)) = (1 : Int32) then ald 8 (c.2 8) a3 (fun v4 => j30 v4) else j30 (0 : Int32))
def fX7_othersOf (c : SS) (p1 : Int32) : Option (Int32) := fX7_othersOf_L4 c p1 fu (0 : Int32) (0 : Int32)
set_option maxRecDepth 20000 in
theorem ctX7_othersOf_L4 (l : Launch) (G : tg_G) (A : Nat → Nat)  (c : SS) (a1 : Int32) {z : Int32}  : ∀ (n : Nat) (a2 : Int32) (a3 : Int32), fX7_othersOf_L4 c a1 n a2 a3 = some z → V l G (tg_Zm G (fun v w1 => v = some (.int z) ∧ w1 = wM G A c) 0 0) tg_E0 (tg_R 0 0) "TramGodModel" "othersOf" cX7_othersOf 4 (some .int) 4 [(0, .ref (A 0)), (1, .int a1), (2, .int a2), (3, .int a3)] [] (wM G A c) 0 0 := by
  intro n
  induction n with
  | zero => intro a2 a3 h; exact absurd h (by simp [fX7_othersOf_L4])
  | succ n ih =>
    intro a2 a3 h
    unfold fX7_othersOf_L4 at h
    refine V_iload_n eX7_othersOf_4 3 rfl ?_
    refine V_bipush (v := (8 : Int32)) eX7_othersOf_5 rfl ?_
    refine V_icmp_ge (tgt := 38) eX7_othersOf_7 rfl (fun hb1 => ?_) (fun hb1 => ?_)
    · replace h := (if_pos hb1).symm.trans h
      refine V_iload_n eX7_othersOf_38 2 rfl ?_
      obtain rfl := Option.some.inj h
      exact V_ret eX7_othersOf_39 rfl ⟨rfl, rfl⟩
    · replace h := (if_neg hb1).symm.trans h
      refine V_iload_n eX7_othersOf_10 2 rfl ?_
      refine V_iload_n eX7_othersOf_11 1 rfl ?_
      refine V_iload_n eX7_othersOf_12 3 rfl ?_
      refine V_ishr eX7_othersOf_13 ?_
      refine V_iconst (v := (1 : Int32)) eX7_othersOf_14 rfl ?_
      refine V_iand eX7_othersOf_15 ?_
      refine V_iconst (v := (1 : Int32)) eX7_othersOf_16 rfl ?_
      refine jn_elim h (fun j => ∀ (x2 : Int32), j x2 = some z → V l G (tg_Zm G (fun v w1 => v = some (.int z) ∧ w1 = wM G A c) 0 0) tg_E0 (tg_R 0 0) "TramGodModel" "othersOf" cX7_othersOf 4 (some .int) 30 [(0, .ref (A 0)), (1, .int a1), (3, .int a3)] [.int x2, .int a2] (wM G A c) 0 0) ?_ (fun j30 hj30 h => ?_)
      · intro x2 h
        refine V_iadd eX7_othersOf_30 ?_
        refine V_istore_n (lv' := [(2, .int (a2 + x2)), (0, .ref (A 0)), (1, .int a1), (3, .int a3)]) eX7_othersOf_31 (Nat.le_of_ble_eq_true rfl) rfl ?_
        refine V_iinc (v := (a3 + (1 : Int32))) (lv' := [(3, .int (a3 + (1 : Int32))), (2, .int (a2 + x2)), (0, .ref (A 0)), (1, .int a1)]) eX7_othersOf_32 3 rfl rfl (Nat.le_of_ble_eq_true rfl) rfl ?_
        refine V_goto (tgt := 4) eX7_othersOf_35 rfl ?_
        refine V_lv (lv' := [(0, .ref (A 0)), (1, .int a1), (2, .int (a2 + x2)), (3, .int (a3 + (1 : Int32)))]) [2, 3, 1, 0] rfl ?_
        exact ih (a2 + x2) (a3 + (1 : Int32)) h
      refine V_icmp_ne (tgt := 29) eX7_othersOf_17 rfl (fun hb3 => ?_) (fun hb3 => ?_)
      · replace h := (if_neg hb3).symm.trans h
        refine V_iconst (v := (0 : Int32)) eX7_othersOf_29 rfl ?_
        refine V_lv (lv' := [(0, .ref (A 0)), (1, .int a1), (3, .int a3)]) [0, 1, 3] rfl ?_
        exact hj30 (0 : Int32) h
      · replace h := (if_pos hb3).symm.trans h
        refine V_aload_n eX7_othersOf_20 0 rfl ?_
        refine V_get (v := .ref (A 6)) eX7_othersOf_21 inX7 0 rfl rfl 8 (Nat.le_of_ble_eq_true rfl) tw_653 rfl ?_
        refine V_iload_n eX7_othersOf_24 3 rfl ?_
        obtain ⟨v4, hi4, ev4, h⟩ := ald_some h
        refine V_ialdv eX7_othersOf_25 6 rfl hi4 ev4 ?_
        refine V_goto (tgt := 30) eX7_othersOf_26 rfl ?_
        refine V_lv (lv' := [(0, .ref (A 0)), (1, .int a1), (3, .int a3)]) [0, 1, 3] rfl ?_
        exact hj30 v4 h
set_option maxRecDepth 20000 in
theorem ctX7_othersOf (l : Launch) (G : tg_G) (A : Nat → Nat) (c : SS) (p1 : Int32) {z : Int32} (h : fX7_othersOf c p1 = some z) : Mt l G yX7_othersOf cX7_othersOf 4 (some .int) (tg_R 0 0) [.ref (A 0), .int p1] (wM G A c) (fun v w1 => v = some (.int z) ∧ w1 = wM G A c) := by
  refine Mt_of2 (own := "TramGodModel") (nm := "othersOf") rfl rfl rfl (Nat.le_of_ble_eq_true rfl) (lv := [(0, .ref (A 0)), (1, .int p1)]) rfl ?_
  unfold fX7_othersOf at h
  refine V_iconst (v := (0 : Int32)) eX7_othersOf_0 rfl ?_
  refine V_istore_n (lv' := [(2, .int (0 : Int32)), (0, .ref (A 0)), (1, .int p1)]) eX7_othersOf_1 (Nat.le_of_ble_eq_true rfl) rfl ?_
  refine V_iconst (v := (0 : Int32)) eX7_othersOf_2 rfl ?_
  refine V_istore_n (lv' := [(3, .int (0 : Int32)), (2, .int (0 : Int32)), (0, .ref (A 0)), (1, .int p1)]) eX7_othersOf_3 (Nat.le_of_ble_eq_true rfl) rfl ?_
  refine V_lv (lv' := [(0, .ref (A 0)), (1, .int p1), (2, .int (0 : Int32)), (3, .int (0 : Int32))]) [2, 3, 1, 0] rfl ?_
  refine ctX7_othersOf_L4 l G A c p1 fu (0 : Int32) (0 : Int32) h
theorem hdX7_goodOf : yX7_goodOf.cls ≠ "java/lang/invoke/MethodHandle" ∧ yX7_goodOf.cls ≠ "java/lang/invoke/VarHandle" ∧ (parseMethodDescriptor yX7_goodOf.desc).map (fun d => d.parameters.length) = some 2 := by decide +kernel
theorem eX7_goodOf_0 : Dc cX7_goodOf 0 (.iconst 0) 1 1 := ⟨by decide +kernel, rfl⟩
theorem eX7_goodOf_1 : Dc cX7_goodOf 1 (.istore_n 3) 1 2 := ⟨by decide +kernel, rfl⟩
theorem eX7_goodOf_2 : Dc cX7_goodOf 2 (.iconst 0) 1 3 := ⟨by decide +kernel, rfl⟩
theorem eX7_goodOf_3 : Dc cX7_goodOf 3 (.istore 4) 2 5 := ⟨by decide +kernel, rfl⟩
theorem eX7_goodOf_5 : Dc cX7_goodOf 5 (.iload 4) 2 7 := ⟨by decide +kernel, rfl⟩
theorem eX7_goodOf_7 : Dc cX7_goodOf 7 (.bipush 8) 2 9 := ⟨by decide +kernel, rfl⟩
theorem eX7_goodOf_9 : Dc cX7_goodOf 9 (.if_icmp .ge 74) 3 12 := ⟨by decide +kernel, rfl⟩
theorem eX7_goodOf_12 : Dc cX7_goodOf 12 (.aload_n 0) 1 13 := ⟨by decide +kernel, rfl⟩
theorem eX7_goodOf_13 : Dc cX7_goodOf 13 (.iload 4) 2 15 := ⟨by decide +kernel, rfl⟩
theorem eX7_goodOf_15 : Dc cX7_goodOf 15 (.invokevirtual 126) 3 18 := ⟨by decide +kernel, rfl⟩
theorem eX7_goodOf_18 : Dc cX7_goodOf 18 (.ifCond .eq 17) 3 21 := ⟨by decide +kernel, rfl⟩
theorem eX7_goodOf_21 : Dc cX7_goodOf 21 (.iload_n 2) 1 22 := ⟨by decide +kernel, rfl⟩
theorem eX7_goodOf_22 : Dc cX7_goodOf 22 (.iload 4) 2 24 := ⟨by decide +kernel, rfl⟩
theorem eX7_goodOf_24 : Dc cX7_goodOf 24 (.ishr) 1 25 := ⟨by decide +kernel, rfl⟩
theorem eX7_goodOf_25 : Dc cX7_goodOf 25 (.iconst 1) 1 26 := ⟨by decide +kernel, rfl⟩
theorem eX7_goodOf_26 : Dc cX7_goodOf 26 (.iand) 1 27 := ⟨by decide +kernel, rfl⟩
theorem eX7_goodOf_27 : Dc cX7_goodOf 27 (.iconst 1) 1 28 := ⟨by decide +kernel, rfl⟩
theorem eX7_goodOf_28 : Dc cX7_goodOf 28 (.if_icmp .ne 7) 3 31 := ⟨by decide +kernel, rfl⟩
theorem eX7_goodOf_31 : Dc cX7_goodOf 31 (.iconst 1) 1 32 := ⟨by decide +kernel, rfl⟩
theorem eX7_goodOf_32 : Dc cX7_goodOf 32 (.goto 4) 3 35 := ⟨by decide +kernel, rfl⟩
theorem eX7_goodOf_35 : Dc cX7_goodOf 35 (.iconst 0) 1 36 := ⟨by decide +kernel, rfl⟩
theorem eX7_goodOf_36 : Dc cX7_goodOf 36 (.istore 5) 2 38 := ⟨by decide +kernel, rfl⟩
theorem eX7_goodOf_38 : Dc cX7_goodOf 38 (.iload_n 3) 1 39 := ⟨by decide +kernel, rfl⟩
theorem eX7_goodOf_39 : Dc cX7_goodOf 39 (.iload 5) 2 41 := ⟨by decide +kernel, rfl⟩
theorem eX7_goodOf_41 : Dc cX7_goodOf 41 (.ifCond .ne 7) 3 44 := ⟨by decide +kernel, rfl⟩
theorem eX7_goodOf_44 : Dc cX7_goodOf 44 (.iconst 0) 1 45 := ⟨by decide +kernel, rfl⟩
theorem eX7_goodOf_45 : Dc cX7_goodOf 45 (.goto 30) 3 48 := ⟨by decide +kernel, rfl⟩
theorem eX7_goodOf_48 : Dc cX7_goodOf 48 (.iload_n 1) 1 49 := ⟨by decide +kernel, rfl⟩
theorem eX7_goodOf_49 : Dc cX7_goodOf 49 (.iload 4) 2 51 := ⟨by decide +kernel, rfl⟩
theorem eX7_goodOf_51 : Dc cX7_goodOf 51 (.ishr) 1 52 := ⟨by decide +kernel, rfl⟩
theorem eX7_goodOf_52 : Dc cX7_goodOf 52 (.iconst 1) 1 53 := ⟨by decide +kernel, rfl⟩
theorem eX7_goodOf_53 : Dc cX7_goodOf 53 (.iand) 1 54 := ⟨by decide +kernel, rfl⟩
theorem eX7_goodOf_54 : Dc cX7_goodOf 54 (.iconst 1) 1 55 := ⟨by decide +kernel, rfl⟩
theorem eX7_goodOf_55 : Dc cX7_goodOf 55 (.if_icmp .ne 13) 3 58 := ⟨by decide +kernel, rfl⟩
theorem eX7_goodOf_58 : Dc cX7_goodOf 58 (.aload_n 0) 1 59 := ⟨by decide +kernel, rfl⟩
theorem eX7_goodOf_59 : Dc cX7_goodOf 59 (.getfield 19) 3 62 := ⟨by decide +kernel, rfl⟩
theorem eX7_goodOf_62 : Dc cX7_goodOf 62 (.iload 4) 2 64 := ⟨by decide +kernel, rfl⟩
theorem eX7_goodOf_64 : Dc cX7_goodOf 64 (.iaload) 1 65 := ⟨by decide +kernel, rfl⟩
theorem eX7_goodOf_65 : Dc cX7_goodOf 65 (.goto 10) 3 68 := ⟨by decide +kernel, rfl⟩
theorem eX7_goodOf_68 : Dc cX7_goodOf 68 (.aload_n 0) 1 69 := ⟨by decide +kernel, rfl⟩
theorem eX7_goodOf_69 : Dc cX7_goodOf 69 (.getfield 22) 3 72 := ⟨by decide +kernel, rfl⟩
theorem eX7_goodOf_72 : Dc cX7_goodOf 72 (.iload 4) 2 74 := ⟨by decide +kernel, rfl⟩
theorem eX7_goodOf_74 : Dc cX7_goodOf 74 (.iaload) 1 75 := ⟨by decide +kernel, rfl⟩
theorem eX7_goodOf_75 : Dc cX7_goodOf 75 (.iadd) 1 76 := ⟨by decide +kernel, rfl⟩
theorem eX7_goodOf_76 : Dc cX7_goodOf 76 (.istore_n 3) 1 77 := ⟨by decide +kernel, rfl⟩
theorem eX7_goodOf_77 : Dc cX7_goodOf 77 (.iinc 4 1) 3 80 := ⟨by decide +kernel, rfl⟩
theorem eX7_goodOf_80 : Dc cX7_goodOf 80 (.goto (-75)) 3 83 := ⟨by decide +kernel, rfl⟩
theorem eX7_goodOf_83 : Dc cX7_goodOf 83 (.iload_n 3) 1 84 := ⟨by decide +kernel, rfl⟩
theorem eX7_goodOf_84 : Dc cX7_goodOf 84 (.ireturn) 1 85 := ⟨by decide +kernel, rfl⟩
def fX7_goodOf_L5  (c : SS) (a1 : Int32) (a2 : Int32) : Nat → Int32 → Int32 → Option (Int32)
  | 0, _, _ => none
  | n + 1, a3, a4 => if (8 : Int32) ≤ a4 then some a3 else jn (fun (x2 : Int32) => jn (fun (x3 : Int32) => fX7_goodOf_L5 c a1 a2 n (a3 + x3) (a4 + (1 : Int32))) (fun j75 => if x2 = (0 : Int32) then j75 (0 : Int32) else if ((a1 >>> (a4 &&& 31)) &&& (1 : Int32)) = (1 : Int32) then ald 8 (c.2 6) a4 (fun v7 => j75 v7) else ald 8 (c.2 7) a4 (fun v6 => j75 v6))) (fun j36 => jn (fun (_ : Unit) => j36 (0 : Int32)) (fun j35 => if (fX7_isThere c a4) = (0 : Int32) then j35 () else if ((a2 >>> (a4 &&& 31)) &&& (1 : Int32)) = (1 : Int32) then j36 (1 : Int32) else j35 ()))
def fX7_goodOf (c : SS) (p1 : Int32) (p2 : Int32) : Option (Int32) := fX7_goodOf_L5 c p1 p2 fu (0 : Int32) (0 : Int32)
set_option maxRecDepth 20000 in
theorem ctX7_goodOf_L5 (l : Launch) (G : tg_G) (A : Nat → Nat)  (c : SS) (a1 : Int32) (a2 : Int32) {z : Int32}  : ∀ (n : Nat) (a3 : Int32) (a4 : Int32), fX7_goodOf_L5 c a1 a2 n a3 a4 = some z → V l G (tg_Zm G (fun v w1 => v = some (.int z) ∧ w1 = wM G A c) 0 0) tg_E0 (tg_R 2 46) "TramGodModel" "goodOf" cX7_goodOf 6 (some .int) 5 [(0, .ref (A 0)), (1, .int a1), (2, .int a2), (3, .int a3), (4, .int a4)] [] (wM G A c) 0 0 := by
  intro n
  induction n with
  | zero => intro a3 a4 h; exact absurd h (by simp [fX7_goodOf_L5])
  | succ n ih =>
    intro a3 a4 h
    unfold fX7_goodOf_L5 at h
    refine V_iload eX7_goodOf_5 4 rfl ?_
    refine V_bipush (v := (8 : Int32)) eX7_goodOf_7 rfl ?_
    refine V_icmp_ge (tgt := 83) eX7_goodOf_9 rfl (fun hb1 => ?_) (fun hb1 => ?_)
    · replace h := (if_pos hb1).symm.trans h
      refine V_iload_n eX7_goodOf_83 3 rfl ?_
      obtain rfl := Option.some.inj h
      exact V_ret eX7_goodOf_84 rfl ⟨rfl, rfl⟩
    · replace h := (if_neg hb1).symm.trans h
      refine V_aload_n eX7_goodOf_12 0 rfl ?_
      refine V_iload eX7_goodOf_13 4 rfl ?_
      refine V_callVi (rest := []) eX7_goodOf_15 (ctX7_isThere l G A c a4 rfl) tc_796 tw_793 tw_8 tw_795 ts_22 0 rfl rfl hdX7_isThere rfl ⟨Nat.le_of_ble_eq_true rfl, Nat.le_of_ble_eq_true rfl⟩ rfl (Nat.le_of_ble_eq_true rfl) ⟨Nat.zero_le _, Nat.zero_le _⟩ ?_
      refine jn_elim h (fun j => ∀ (x2 : Int32), j x2 = some z → V l G (tg_Zm G (fun v w1 => v = some (.int z) ∧ w1 = wM G A c) 0 0) tg_E0 (tg_R 2 46) "TramGodModel" "goodOf" cX7_goodOf 6 (some .int) 36 [(0, .ref (A 0)), (1, .int a1), (2, .int a2), (3, .int a3), (4, .int a4)] [.int x2] (wM G A c) 0 0) ?_ (fun j36 hj36 h => ?_)
      · intro x2 h
        refine V_istore (lv' := [(5, .int x2), (0, .ref (A 0)), (1, .int a1), (2, .int a2), (3, .int a3), (4, .int a4)]) eX7_goodOf_36 (Nat.le_of_ble_eq_true rfl) rfl ?_
        refine V_iload_n eX7_goodOf_38 4 rfl ?_
        refine V_iload eX7_goodOf_39 0 rfl ?_
        refine jn_elim h (fun j => ∀ (x3 : Int32), j x3 = some z → V l G (tg_Zm G (fun v w1 => v = some (.int z) ∧ w1 = wM G A c) 0 0) tg_E0 (tg_R 2 46) "TramGodModel" "goodOf" cX7_goodOf 6 (some .int) 75 [(0, .ref (A 0)), (1, .int a1), (2, .int a2), (4, .int a4)] [.int x3, .int a3] (wM G A c) 0 0) ?_ (fun j75 hj75 h => ?_)
        · intro x3 h
          refine V_iadd eX7_goodOf_75 ?_
          refine V_istore_n (lv' := [(3, .int (a3 + x3)), (0, .ref (A 0)), (1, .int a1), (2, .int a2), (4, .int a4)]) eX7_goodOf_76 (Nat.le_of_ble_eq_true rfl) rfl ?_
          refine V_iinc (v := (a4 + (1 : Int32))) (lv' := [(4, .int (a4 + (1 : Int32))), (3, .int (a3 + x3)), (0, .ref (A 0)), (1, .int a1), (2, .int a2)]) eX7_goodOf_77 4 rfl rfl (Nat.le_of_ble_eq_true rfl) rfl ?_
          refine V_goto (tgt := 5) eX7_goodOf_80 rfl ?_
          refine V_lv (lv' := [(0, .ref (A 0)), (1, .int a1), (2, .int a2), (3, .int (a3 + x3)), (4, .int (a4 + (1 : Int32)))]) [2, 3, 4, 1, 0] rfl ?_
          exact ih (a3 + x3) (a4 + (1 : Int32)) h
        refine V_if_ne (tgt := 48) eX7_goodOf_41 rfl (fun hb4 => ?_) (fun hb4 => ?_)
        · replace h := (if_neg hb4).symm.trans h
          refine V_iload_n eX7_goodOf_48 2 rfl ?_
          refine V_iload eX7_goodOf_49 5 rfl ?_
          refine V_ishr eX7_goodOf_51 ?_
          refine V_iconst (v := (1 : Int32)) eX7_goodOf_52 rfl ?_
          refine V_iand eX7_goodOf_53 ?_
          refine V_iconst (v := (1 : Int32)) eX7_goodOf_54 rfl ?_
          refine V_icmp_ne (tgt := 68) eX7_goodOf_55 rfl (fun hb5 => ?_) (fun hb5 => ?_)
          · replace h := (if_neg hb5).symm.trans h
            refine V_aload_n eX7_goodOf_68 1 rfl ?_
            refine V_get (v := .ref (A 5)) eX7_goodOf_69 inX7 0 rfl rfl 7 (Nat.le_of_ble_eq_true rfl) tw_652 rfl ?_
            refine V_iload eX7_goodOf_72 5 rfl ?_
            obtain ⟨v6, hi6, ev6, h⟩ := ald_some h
            refine V_ialdv eX7_goodOf_74 5 rfl hi6 ev6 ?_
            refine V_lv (lv' := [(0, .ref (A 0)), (1, .int a1), (2, .int a2), (4, .int a4)]) [1, 2, 3, 5] rfl ?_
            exact hj75 v6 h
          · replace h := (if_pos hb5).symm.trans h
            refine V_aload_n eX7_goodOf_58 1 rfl ?_
            refine V_get (v := .ref (A 4)) eX7_goodOf_59 inX7 0 rfl rfl 6 (Nat.le_of_ble_eq_true rfl) tw_651 rfl ?_
            refine V_iload eX7_goodOf_62 5 rfl ?_
            obtain ⟨v7, hi7, ev7, h⟩ := ald_some h
            refine V_ialdv eX7_goodOf_64 4 rfl hi7 ev7 ?_
            refine V_goto (tgt := 75) eX7_goodOf_65 rfl ?_
            refine V_lv (lv' := [(0, .ref (A 0)), (1, .int a1), (2, .int a2), (4, .int a4)]) [1, 2, 3, 5] rfl ?_
            exact hj75 v7 h
        · replace h := (if_pos hb4).symm.trans h
          refine V_iconst (v := (0 : Int32)) eX7_goodOf_44 rfl ?_
          refine V_goto (tgt := 75) eX7_goodOf_45 rfl ?_
          refine V_lv (lv' := [(0, .ref (A 0)), (1, .int a1), (2, .int a2), (4, .int a4)]) [1, 2, 3, 5] rfl ?_
          exact hj75 (0 : Int32) h
      refine jn_elim h (fun j => j () = some z → V l G (tg_Zm G (fun v w1 => v = some (.int z) ∧ w1 = wM G A c) 0 0) tg_E0 (tg_R 2 46) "TramGodModel" "goodOf" cX7_goodOf 6 (some .int) 35 [(0, .ref (A 0)), (1, .int a1), (2, .int a2), (3, .int a3), (4, .int a4)] [] (wM G A c) 0 0) ?_ (fun j35 hj35 h => ?_)
      · intro h
        refine V_iconst (v := (0 : Int32)) eX7_goodOf_35 rfl ?_
        exact hj36 (0 : Int32) h
      refine V_if_eq (tgt := 35) eX7_goodOf_18 rfl (fun hb8 => ?_) (fun hb8 => ?_)
      · replace h := (if_pos hb8).symm.trans h
        exact hj35 h
      · replace h := (if_neg hb8).symm.trans h
        refine V_iload_n eX7_goodOf_21 2 rfl ?_
        refine V_iload eX7_goodOf_22 4 rfl ?_
        refine V_ishr eX7_goodOf_24 ?_
        refine V_iconst (v := (1 : Int32)) eX7_goodOf_25 rfl ?_
        refine V_iand eX7_goodOf_26 ?_
        refine V_iconst (v := (1 : Int32)) eX7_goodOf_27 rfl ?_
        refine V_icmp_ne (tgt := 35) eX7_goodOf_28 rfl (fun hb9 => ?_) (fun hb9 => ?_)
        · replace h := (if_neg hb9).symm.trans h
          exact hj35 h
        · replace h := (if_pos hb9).symm.trans h
          refine V_iconst (v := (1 : Int32)) eX7_goodOf_31 rfl ?_
          refine V_goto (tgt := 36) eX7_goodOf_32 rfl ?_
          exact hj36 (1 : Int32) h
set_option maxRecDepth 20000 in
theorem ctX7_goodOf (l : Launch) (G : tg_G) (A : Nat → Nat) (c : SS) (p1 : Int32) (p2 : Int32) {z : Int32} (h : fX7_goodOf c p1 p2 = some z) : Mt l G yX7_goodOf cX7_goodOf 6 (some .int) (tg_R 2 46) [.ref (A 0), .int p1, .int p2] (wM G A c) (fun v w1 => v = some (.int z) ∧ w1 = wM G A c) := by
  refine Mt_of2 (own := "TramGodModel") (nm := "goodOf") rfl rfl rfl (Nat.le_of_ble_eq_true rfl) (lv := [(0, .ref (A 0)), (1, .int p1), (2, .int p2)]) rfl ?_
  unfold fX7_goodOf at h
  refine V_iconst (v := (0 : Int32)) eX7_goodOf_0 rfl ?_
  refine V_istore_n (lv' := [(3, .int (0 : Int32)), (0, .ref (A 0)), (1, .int p1), (2, .int p2)]) eX7_goodOf_1 (Nat.le_of_ble_eq_true rfl) rfl ?_
  refine V_iconst (v := (0 : Int32)) eX7_goodOf_2 rfl ?_
  refine V_istore (lv' := [(4, .int (0 : Int32)), (3, .int (0 : Int32)), (0, .ref (A 0)), (1, .int p1), (2, .int p2)]) eX7_goodOf_3 (Nat.le_of_ble_eq_true rfl) rfl ?_
  refine V_lv (lv' := [(0, .ref (A 0)), (1, .int p1), (2, .int p2), (3, .int (0 : Int32)), (4, .int (0 : Int32))]) [2, 3, 4, 1, 0] rfl ?_
  refine ctX7_goodOf_L5 l G A c p1 p2 fu (0 : Int32) (0 : Int32) h
theorem hdX7_good : yX7_good.cls ≠ "java/lang/invoke/MethodHandle" ∧ yX7_good.cls ≠ "java/lang/invoke/VarHandle" ∧ (parseMethodDescriptor yX7_good.desc).map (fun d => d.parameters.length) = some 1 := by decide +kernel
theorem eX7_good_0 : Dc cX7_good 0 (.iload_n 1) 1 1 := ⟨by decide +kernel, rfl⟩
theorem eX7_good_1 : Dc cX7_good 1 (.i2l) 1 2 := ⟨by decide +kernel, rfl⟩
theorem eX7_good_2 : Dc cX7_good 2 (.lconst 0) 1 3 := ⟨by decide +kernel, rfl⟩
theorem eX7_good_3 : Dc cX7_good 3 (.lconst 1) 1 4 := ⟨by decide +kernel, rfl⟩
theorem eX7_good_4 : Dc cX7_good 4 (.invokestatic 79) 3 7 := ⟨by decide +kernel, rfl⟩
theorem eX7_good_7 : Dc cX7_good 7 (.ifCond .ne 6) 3 10 := ⟨by decide +kernel, rfl⟩
theorem eX7_good_10 : Dc cX7_good 10 (.bipush (-2)) 2 12 := ⟨by decide +kernel, rfl⟩
theorem eX7_good_12 : Dc cX7_good 12 (.ireturn) 1 13 := ⟨by decide +kernel, rfl⟩
theorem eX7_good_13 : Dc cX7_good 13 (.aload_n 0) 1 14 := ⟨by decide +kernel, rfl⟩
theorem eX7_good_14 : Dc cX7_good 14 (.invokevirtual 153) 3 17 := ⟨by decide +kernel, rfl⟩
theorem eX7_good_17 : Dc cX7_good 17 (.ifCond .eq 6) 3 20 := ⟨by decide +kernel, rfl⟩
theorem eX7_good_20 : Dc cX7_good 20 (.bipush (-5)) 2 22 := ⟨by decide +kernel, rfl⟩
theorem eX7_good_22 : Dc cX7_good 22 (.ireturn) 1 23 := ⟨by decide +kernel, rfl⟩
theorem eX7_good_23 : Dc cX7_good 23 (.aload_n 0) 1 24 := ⟨by decide +kernel, rfl⟩
theorem eX7_good_24 : Dc cX7_good 24 (.invokevirtual 157) 3 27 := ⟨by decide +kernel, rfl⟩
theorem eX7_good_27 : Dc cX7_good 27 (.istore_n 2) 1 28 := ⟨by decide +kernel, rfl⟩
theorem eX7_good_28 : Dc cX7_good 28 (.sipush 1000) 3 31 := ⟨by decide +kernel, rfl⟩
theorem eX7_good_31 : Dc cX7_good 31 (.iload_n 1) 1 32 := ⟨by decide +kernel, rfl⟩
theorem eX7_good_32 : Dc cX7_good 32 (.ifCond .ne 14) 3 35 := ⟨by decide +kernel, rfl⟩
theorem eX7_good_35 : Dc cX7_good 35 (.aload_n 0) 1 36 := ⟨by decide +kernel, rfl⟩
theorem eX7_good_36 : Dc cX7_good 36 (.iload_n 2) 1 37 := ⟨by decide +kernel, rfl⟩
theorem eX7_good_37 : Dc cX7_good 37 (.sipush 255) 3 40 := ⟨by decide +kernel, rfl⟩
theorem eX7_good_40 : Dc cX7_good 40 (.invokevirtual 161) 3 43 := ⟨by decide +kernel, rfl⟩
theorem eX7_good_43 : Dc cX7_good 43 (.goto 8) 3 46 := ⟨by decide +kernel, rfl⟩
theorem eX7_good_46 : Dc cX7_good 46 (.aload_n 0) 1 47 := ⟨by decide +kernel, rfl⟩
theorem eX7_good_47 : Dc cX7_good 47 (.iload_n 2) 1 48 := ⟨by decide +kernel, rfl⟩
theorem eX7_good_48 : Dc cX7_good 48 (.invokevirtual 164) 3 51 := ⟨by decide +kernel, rfl⟩
theorem eX7_good_51 : Dc cX7_good 51 (.iadd) 1 52 := ⟨by decide +kernel, rfl⟩
theorem eX7_good_52 : Dc cX7_good 52 (.ireturn) 1 53 := ⟨by decide +kernel, rfl⟩
def fX7_good (c : SS) (p1 : Int32) : Option (Int32 × SS) := if (fX7_in (p1).toInt64 (0 : Int64) (1 : Int64)) = (0 : Int32) then some ((-2 : Int32), c) else Option.bind (fX7_isRefused c) (fun q2 => if q2.1 = (0 : Int32) then Option.bind (fX7_ridersNow q2.2) (fun q4 => jn (fun (x5 : Int32) => some (((1000 : Int32) + x5), q4.2)) (fun j51 => if p1 = (0 : Int32) then Option.bind (fX7_goodOf q4.2 q4.1 (255 : Int32)) (fun q8 => j51 q8) else Option.bind (fX7_othersOf q4.2 q4.1) (fun q7 => j51 q7))) else some ((-5 : Int32), q2.2))
set_option maxRecDepth 20000 in
theorem ctX7_good (l : Launch) (G : tg_G) (A : Nat → Nat) (c : SS) (p1 : Int32) {z : Int32 × SS} (h : fX7_good c p1 = some z) : Mt l G yX7_good cX7_good 3 (some .int) (tg_R 4 89) [.ref (A 0), .int p1] (wM G A c) (fun v w1 => v = some (.int z.1) ∧ w1 = wM G A z.2) := by
  refine Mt_of2 (own := "TramGodModel") (nm := "good") rfl rfl rfl (Nat.le_of_ble_eq_true rfl) (lv := [(0, .ref (A 0)), (1, .int p1)]) rfl ?_
  unfold fX7_good at h
  refine V_iload_n eX7_good_0 1 rfl ?_
  refine V_i2l eX7_good_1 ?_
  refine V_lconst (v := (0 : Int64)) eX7_good_2 rfl ?_
  refine V_lconst (v := (1 : Int64)) eX7_good_3 rfl ?_
  refine V_callSi (rest := []) eX7_good_4 (ctX7_in l G _ (p1).toInt64 (0 : Int64) (1 : Int64) rfl) tc_748 tw_746 tw_8 tw_747 hdX7_in rfl ⟨Nat.le_of_ble_eq_true rfl, Nat.le_of_ble_eq_true rfl⟩ rfl (Nat.le_of_ble_eq_true rfl) ⟨Nat.zero_le _, Nat.zero_le _⟩ ?_
  refine V_if_ne (tgt := 13) eX7_good_7 rfl (fun hb1 => ?_) (fun hb1 => ?_)
  · replace h := (if_neg hb1).symm.trans h
    refine V_aload_n eX7_good_13 0 rfl ?_
    obtain ⟨q2, hc2, h⟩ := Option.bind_eq_some_iff.mp h
    refine V_callVi (rest := []) eX7_good_14 (ctX7_isRefused l G A c hc2) tc_826 tw_823 tw_8 tw_825 ts_25 0 rfl rfl hdX7_isRefused rfl ⟨Nat.le_of_ble_eq_true rfl, Nat.le_of_ble_eq_true rfl⟩ rfl (Nat.le_of_ble_eq_true rfl) ⟨Nat.zero_le _, Nat.zero_le _⟩ ?_
    refine V_if_eq (tgt := 23) eX7_good_17 rfl (fun hb3 => ?_) (fun hb3 => ?_)
    · replace h := (if_pos hb3).symm.trans h
      refine V_aload_n eX7_good_23 0 rfl ?_
      obtain ⟨q4, hc4, h⟩ := Option.bind_eq_some_iff.mp h
      refine V_callVi (rest := []) eX7_good_24 (ctX7_ridersNow l G A q2.2 hc4) tc_830 tw_827 tw_8 tw_829 ts_26 0 rfl rfl hdX7_ridersNow rfl ⟨Nat.le_of_ble_eq_true rfl, Nat.le_of_ble_eq_true rfl⟩ rfl (Nat.le_of_ble_eq_true rfl) ⟨Nat.zero_le _, Nat.zero_le _⟩ ?_
      refine V_istore_n (lv' := [(2, .int q4.1), (0, .ref (A 0)), (1, .int p1)]) eX7_good_27 (Nat.le_of_ble_eq_true rfl) rfl ?_
      refine V_sipush (v := (1000 : Int32)) eX7_good_28 rfl ?_
      refine V_iload_n eX7_good_31 2 rfl ?_
      refine jn_elim h (fun j => ∀ (x5 : Int32), j x5 = some z → V l G (tg_Zm G (fun v w1 => v = some (.int z.1) ∧ w1 = wM G A z.2) 0 0) tg_E0 (tg_R 4 89) "TramGodModel" "good" cX7_good 3 (some .int) 51 [] [.int x5, .int (1000 : Int32)] (wM G A q4.2) 0 0) ?_ (fun j51 hj51 h => ?_)
      · intro x5 h
        refine V_iadd eX7_good_51 ?_
        obtain rfl := Option.some.inj h
        exact V_ret eX7_good_52 rfl ⟨rfl, rfl⟩
      refine V_if_ne (tgt := 46) eX7_good_32 rfl (fun hb6 => ?_) (fun hb6 => ?_)
      · replace h := (if_neg hb6).symm.trans h
        refine V_aload_n eX7_good_46 1 rfl ?_
        refine V_iload_n eX7_good_47 0 rfl ?_
        obtain ⟨q7, hc7, h⟩ := Option.bind_eq_some_iff.mp h
        refine V_callVi (rest := [.int (1000 : Int32)]) eX7_good_48 (ctX7_othersOf l G A q4.2 q4.1 hc7) tc_850 tw_847 tw_8 tw_849 ts_30 0 rfl rfl hdX7_othersOf rfl ⟨Nat.le_of_ble_eq_true rfl, Nat.le_of_ble_eq_true rfl⟩ rfl (Nat.le_of_ble_eq_true rfl) ⟨Nat.zero_le _, Nat.zero_le _⟩ ?_
        refine V_lv (lv' := []) [] rfl ?_
        exact hj51 q7 h
      · replace h := (if_pos hb6).symm.trans h
        refine V_aload_n eX7_good_35 1 rfl ?_
        refine V_iload_n eX7_good_36 0 rfl ?_
        refine V_sipush (v := (255 : Int32)) eX7_good_37 rfl ?_
        obtain ⟨q8, hc8, h⟩ := Option.bind_eq_some_iff.mp h
        refine V_callVi (rest := [.int (1000 : Int32)]) eX7_good_40 (ctX7_goodOf l G A q4.2 q4.1 (255 : Int32) hc8) tc_846 tw_843 tw_8 tw_845 ts_29 0 rfl rfl hdX7_goodOf rfl ⟨Nat.le_of_ble_eq_true rfl, Nat.le_of_ble_eq_true rfl⟩ rfl (Nat.le_of_ble_eq_true rfl) ⟨Nat.zero_le _, Nat.zero_le _⟩ ?_
        refine V_goto (tgt := 51) eX7_good_43 rfl ?_
        refine V_lv (lv' := []) [] rfl ?_
        exact hj51 q8 h
    · replace h := (if_neg hb3).symm.trans h
      refine V_bipush (v := (-5 : Int32)) eX7_good_20 rfl ?_
      obtain rfl := Option.some.inj h
      exact V_ret eX7_good_22 rfl ⟨rfl, rfl⟩
  · replace h := (if_pos hb1).symm.trans h
    refine V_bipush (v := (-2 : Int32)) eX7_good_10 rfl ?_
    obtain rfl := Option.some.inj h
    exact V_ret eX7_good_12 rfl ⟨rfl, rfl⟩
theorem hdX7_leaves : yX7_leaves.cls ≠ "java/lang/invoke/MethodHandle" ∧ yX7_leaves.cls ≠ "java/lang/invoke/VarHandle" ∧ (parseMethodDescriptor yX7_leaves.desc).map (fun d => d.parameters.length) = some 1 := by decide +kernel
theorem eX7_leaves_0 : Dc cX7_leaves 0 (.aload_n 0) 1 1 := ⟨by decide +kernel, rfl⟩
theorem eX7_leaves_1 : Dc cX7_leaves 1 (.iload_n 1) 1 2 := ⟨by decide +kernel, rfl⟩
theorem eX7_leaves_2 : Dc cX7_leaves 2 (.invokevirtual 109) 3 5 := ⟨by decide +kernel, rfl⟩
theorem eX7_leaves_5 : Dc cX7_leaves 5 (.ifCond .ne 5) 3 8 := ⟨by decide +kernel, rfl⟩
theorem eX7_leaves_8 : Dc cX7_leaves 8 (.iconst (-1)) 1 9 := ⟨by decide +kernel, rfl⟩
theorem eX7_leaves_9 : Dc cX7_leaves 9 (.ireturn) 1 10 := ⟨by decide +kernel, rfl⟩
theorem eX7_leaves_10 : Dc cX7_leaves 10 (.aload_n 0) 1 11 := ⟨by decide +kernel, rfl⟩
theorem eX7_leaves_11 : Dc cX7_leaves 11 (.invokevirtual 153) 3 14 := ⟨by decide +kernel, rfl⟩
theorem eX7_leaves_14 : Dc cX7_leaves 14 (.ifCond .eq 6) 3 17 := ⟨by decide +kernel, rfl⟩
theorem eX7_leaves_17 : Dc cX7_leaves 17 (.bipush (-5)) 2 19 := ⟨by decide +kernel, rfl⟩
theorem eX7_leaves_19 : Dc cX7_leaves 19 (.ireturn) 1 20 := ⟨by decide +kernel, rfl⟩
theorem eX7_leaves_20 : Dc cX7_leaves 20 (.aload_n 0) 1 21 := ⟨by decide +kernel, rfl⟩
theorem eX7_leaves_21 : Dc cX7_leaves 21 (.invokevirtual 134) 3 24 := ⟨by decide +kernel, rfl⟩
theorem eX7_leaves_24 : Dc cX7_leaves 24 (.aload_n 0) 1 25 := ⟨by decide +kernel, rfl⟩
theorem eX7_leaves_25 : Dc cX7_leaves 25 (.getfield 43) 3 28 := ⟨by decide +kernel, rfl⟩
theorem eX7_leaves_28 : Dc cX7_leaves 28 (.iload_n 1) 1 29 := ⟨by decide +kernel, rfl⟩
theorem eX7_leaves_29 : Dc cX7_leaves 29 (.iaload) 1 30 := ⟨by decide +kernel, rfl⟩
theorem eX7_leaves_30 : Dc cX7_leaves 30 (.ireturn) 1 31 := ⟨by decide +kernel, rfl⟩
def fX7_leaves (c : SS) (p1 : Int32) : Option (Int32 × SS) := if (fX7_isStop c p1) = (0 : Int32) then some ((-1 : Int32), c) else Option.bind (fX7_isRefused c) (fun q2 => if q2.1 = (0 : Int32) then Option.bind (fX7_findLeaves q2.2) (fun q4 => ald 6 (q4.2 18) p1 (fun v5 => some (v5, q4))) else some ((-5 : Int32), q2.2))
set_option maxRecDepth 20000 in
theorem ctX7_leaves (l : Launch) (G : tg_G) (A : Nat → Nat) (c : SS) (p1 : Int32) {z : Int32 × SS} (h : fX7_leaves c p1 = some z) : Mt l G yX7_leaves cX7_leaves 2 (some .int) (tg_R 4 89) [.ref (A 0), .int p1] (wM G A c) (fun v w1 => v = some (.int z.1) ∧ w1 = wM G A z.2) := by
  refine Mt_of2 (own := "TramGodModel") (nm := "leaves") rfl rfl rfl (Nat.le_of_ble_eq_true rfl) (lv := [(0, .ref (A 0)), (1, .int p1)]) rfl ?_
  unfold fX7_leaves at h
  refine V_aload_n eX7_leaves_0 0 rfl ?_
  refine V_iload_n eX7_leaves_1 1 rfl ?_
  refine V_callVi (rest := []) eX7_leaves_2 (ctX7_isStop l G A c p1 rfl) tc_774 tw_771 tw_8 tw_773 ts_21 0 rfl rfl hdX7_isStop rfl ⟨Nat.le_of_ble_eq_true rfl, Nat.le_of_ble_eq_true rfl⟩ rfl (Nat.le_of_ble_eq_true rfl) ⟨Nat.zero_le _, Nat.zero_le _⟩ ?_
  refine V_if_ne (tgt := 10) eX7_leaves_5 rfl (fun hb1 => ?_) (fun hb1 => ?_)
  · replace h := (if_neg hb1).symm.trans h
    refine V_aload_n eX7_leaves_10 0 rfl ?_
    obtain ⟨q2, hc2, h⟩ := Option.bind_eq_some_iff.mp h
    refine V_callVi (rest := []) eX7_leaves_11 (ctX7_isRefused l G A c hc2) tc_826 tw_823 tw_8 tw_825 ts_25 0 rfl rfl hdX7_isRefused rfl ⟨Nat.le_of_ble_eq_true rfl, Nat.le_of_ble_eq_true rfl⟩ rfl (Nat.le_of_ble_eq_true rfl) ⟨Nat.zero_le _, Nat.zero_le _⟩ ?_
    refine V_if_eq (tgt := 20) eX7_leaves_14 rfl (fun hb3 => ?_) (fun hb3 => ?_)
    · replace h := (if_pos hb3).symm.trans h
      refine V_aload_n eX7_leaves_20 0 rfl ?_
      obtain ⟨q4, hc4, h⟩ := Option.bind_eq_some_iff.mp h
      refine V_callVv (rest := []) eX7_leaves_21 (ctX7_findLeaves l G A q2.2 hc4) tc_834 tw_831 tw_8 tw_833 ts_27 0 rfl rfl hdX7_findLeaves rfl ⟨Nat.le_of_ble_eq_true rfl, Nat.le_of_ble_eq_true rfl⟩ rfl (Nat.le_of_ble_eq_true rfl) ⟨Nat.zero_le _, Nat.zero_le _⟩ ?_
      refine V_aload_n eX7_leaves_24 0 rfl ?_
      refine V_get (v := .ref (A 12)) eX7_leaves_25 inX7 0 rfl rfl 18 (Nat.le_of_ble_eq_true rfl) tw_663 rfl ?_
      refine V_iload_n eX7_leaves_28 1 rfl ?_
      obtain ⟨v5, hi5, ev5, h⟩ := ald_some h
      refine V_ialdv eX7_leaves_29 12 rfl hi5 ev5 ?_
      obtain rfl := Option.some.inj h
      exact V_ret eX7_leaves_30 rfl ⟨rfl, rfl⟩
    · replace h := (if_neg hb3).symm.trans h
      refine V_bipush (v := (-5 : Int32)) eX7_leaves_17 rfl ?_
      obtain rfl := Option.some.inj h
      exact V_ret eX7_leaves_19 rfl ⟨rfl, rfl⟩
  · replace h := (if_pos hb1).symm.trans h
    refine V_iconst (v := (-1 : Int32)) eX7_leaves_8 rfl ?_
    obtain rfl := Option.some.inj h
    exact V_ret eX7_leaves_9 rfl ⟨rfl, rfl⟩
theorem hdX7_vain : yX7_vain.cls ≠ "java/lang/invoke/MethodHandle" ∧ yX7_vain.cls ≠ "java/lang/invoke/VarHandle" ∧ (parseMethodDescriptor yX7_vain.desc).map (fun d => d.parameters.length) = some 0 := by decide +kernel
theorem eX7_vain_0 : Dc cX7_vain 0 (.aload_n 0) 1 1 := ⟨by decide +kernel, rfl⟩
theorem eX7_vain_1 : Dc cX7_vain 1 (.invokevirtual 153) 3 4 := ⟨by decide +kernel, rfl⟩
theorem eX7_vain_4 : Dc cX7_vain 4 (.ifCond .eq 6) 3 7 := ⟨by decide +kernel, rfl⟩
theorem eX7_vain_7 : Dc cX7_vain 7 (.bipush (-5)) 2 9 := ⟨by decide +kernel, rfl⟩
theorem eX7_vain_9 : Dc cX7_vain 9 (.ireturn) 1 10 := ⟨by decide +kernel, rfl⟩
theorem eX7_vain_10 : Dc cX7_vain 10 (.aload_n 0) 1 11 := ⟨by decide +kernel, rfl⟩
theorem eX7_vain_11 : Dc cX7_vain 11 (.invokevirtual 157) 3 14 := ⟨by decide +kernel, rfl⟩
theorem eX7_vain_14 : Dc cX7_vain 14 (.istore_n 1) 1 15 := ⟨by decide +kernel, rfl⟩
theorem eX7_vain_15 : Dc cX7_vain 15 (.iconst 0) 1 16 := ⟨by decide +kernel, rfl⟩
theorem eX7_vain_16 : Dc cX7_vain 16 (.istore_n 2) 1 17 := ⟨by decide +kernel, rfl⟩
theorem eX7_vain_17 : Dc cX7_vain 17 (.iload_n 2) 1 18 := ⟨by decide +kernel, rfl⟩
theorem eX7_vain_18 : Dc cX7_vain 18 (.aload_n 0) 1 19 := ⟨by decide +kernel, rfl⟩
theorem eX7_vain_19 : Dc cX7_vain 19 (.getfield 69) 3 22 := ⟨by decide +kernel, rfl⟩
theorem eX7_vain_22 : Dc cX7_vain 22 (.if_icmp .ge 56) 3 25 := ⟨by decide +kernel, rfl⟩
theorem eX7_vain_25 : Dc cX7_vain 25 (.aload_n 0) 1 26 := ⟨by decide +kernel, rfl⟩
theorem eX7_vain_26 : Dc cX7_vain 26 (.getfield 40) 3 29 := ⟨by decide +kernel, rfl⟩
theorem eX7_vain_29 : Dc cX7_vain 29 (.iload_n 2) 1 30 := ⟨by decide +kernel, rfl⟩
theorem eX7_vain_30 : Dc cX7_vain 30 (.iaload) 1 31 := ⟨by decide +kernel, rfl⟩
theorem eX7_vain_31 : Dc cX7_vain 31 (.istore_n 3) 1 32 := ⟨by decide +kernel, rfl⟩
theorem eX7_vain_32 : Dc cX7_vain 32 (.aload_n 0) 1 33 := ⟨by decide +kernel, rfl⟩
theorem eX7_vain_33 : Dc cX7_vain 33 (.getfield 40) 3 36 := ⟨by decide +kernel, rfl⟩
theorem eX7_vain_36 : Dc cX7_vain 36 (.iload_n 2) 1 37 := ⟨by decide +kernel, rfl⟩
theorem eX7_vain_37 : Dc cX7_vain 37 (.iconst 0) 1 38 := ⟨by decide +kernel, rfl⟩
theorem eX7_vain_38 : Dc cX7_vain 38 (.iastore) 1 39 := ⟨by decide +kernel, rfl⟩
theorem eX7_vain_39 : Dc cX7_vain 39 (.aload_n 0) 1 40 := ⟨by decide +kernel, rfl⟩
theorem eX7_vain_40 : Dc cX7_vain 40 (.invokevirtual 157) 3 43 := ⟨by decide +kernel, rfl⟩
theorem eX7_vain_43 : Dc cX7_vain 43 (.iload_n 1) 1 44 := ⟨by decide +kernel, rfl⟩
theorem eX7_vain_44 : Dc cX7_vain 44 (.if_icmp .ne 7) 3 47 := ⟨by decide +kernel, rfl⟩
theorem eX7_vain_47 : Dc cX7_vain 47 (.iconst 1) 1 48 := ⟨by decide +kernel, rfl⟩
theorem eX7_vain_48 : Dc cX7_vain 48 (.goto 4) 3 51 := ⟨by decide +kernel, rfl⟩
theorem eX7_vain_51 : Dc cX7_vain 51 (.iconst 0) 1 52 := ⟨by decide +kernel, rfl⟩
theorem eX7_vain_52 : Dc cX7_vain 52 (.istore 4) 2 54 := ⟨by decide +kernel, rfl⟩
theorem eX7_vain_54 : Dc cX7_vain 54 (.aload_n 0) 1 55 := ⟨by decide +kernel, rfl⟩
theorem eX7_vain_55 : Dc cX7_vain 55 (.getfield 40) 3 58 := ⟨by decide +kernel, rfl⟩
theorem eX7_vain_58 : Dc cX7_vain 58 (.iload_n 2) 1 59 := ⟨by decide +kernel, rfl⟩
theorem eX7_vain_59 : Dc cX7_vain 59 (.iload_n 3) 1 60 := ⟨by decide +kernel, rfl⟩
theorem eX7_vain_60 : Dc cX7_vain 60 (.iastore) 1 61 := ⟨by decide +kernel, rfl⟩
theorem eX7_vain_61 : Dc cX7_vain 61 (.iload_n 3) 1 62 := ⟨by decide +kernel, rfl⟩
theorem eX7_vain_62 : Dc cX7_vain 62 (.ifCond .le 10) 3 65 := ⟨by decide +kernel, rfl⟩
theorem eX7_vain_65 : Dc cX7_vain 65 (.iload 4) 2 67 := ⟨by decide +kernel, rfl⟩
theorem eX7_vain_67 : Dc cX7_vain 67 (.ifCond .eq 5) 3 70 := ⟨by decide +kernel, rfl⟩
theorem eX7_vain_70 : Dc cX7_vain 70 (.iload_n 2) 1 71 := ⟨by decide +kernel, rfl⟩
theorem eX7_vain_71 : Dc cX7_vain 71 (.ireturn) 1 72 := ⟨by decide +kernel, rfl⟩
theorem eX7_vain_72 : Dc cX7_vain 72 (.iinc 2 1) 3 75 := ⟨by decide +kernel, rfl⟩
theorem eX7_vain_75 : Dc cX7_vain 75 (.goto (-58)) 3 78 := ⟨by decide +kernel, rfl⟩
theorem eX7_vain_78 : Dc cX7_vain 78 (.bipush (-6)) 2 80 := ⟨by decide +kernel, rfl⟩
theorem eX7_vain_80 : Dc cX7_vain 80 (.ireturn) 1 81 := ⟨by decide +kernel, rfl⟩
def fX7_vain_L17  (a1 : Int32) : Nat → Int32 → SS → Option (Int32 × SS)
  | 0, _, _ => none
  | n + 1, a2, c => if (c.1 0) ≤ a2 then some ((-6 : Int32), c) else ald 6 (c.2 17) a2 (fun v5 => ckb 6 a2 (Option.bind (fX7_ridersNow (sA c 17 (a2).toNatClampNeg (0 : Int32))) (fun q7 => jn (fun (x8 : Int32) => ckb 6 a2 (jn (fun (_ : Unit) => fX7_vain_L17 a1 n (a2 + (1 : Int32)) (sA q7.2 17 (a2).toNatClampNeg v5)) (fun j72 => if v5 ≤ (0 : Int32) then j72 () else if x8 = (0 : Int32) then j72 () else some (a2, (sA q7.2 17 (a2).toNatClampNeg v5))))) (fun j52 => if q7.1 = a1 then j52 (1 : Int32) else j52 (0 : Int32)))))
def fX7_vain (c : SS)  : Option (Int32 × SS) := Option.bind (fX7_isRefused c) (fun q1 => if q1.1 = (0 : Int32) then Option.bind (fX7_ridersNow q1.2) (fun q3 => fX7_vain_L17 q3.1 fu (0 : Int32) q3.2) else some ((-5 : Int32), q1.2))
set_option maxRecDepth 20000 in
theorem ctX7_vain_L17 (l : Launch) (G : tg_G) (A : Nat → Nat)  (a1 : Int32) {z : Int32 × SS}  : ∀ (n : Nat) (a2 : Int32) (c : SS), fX7_vain_L17 a1 n a2 c = some z → V l G (tg_Zm G (fun v w1 => v = some (.int z.1) ∧ w1 = wM G A z.2) 0 0) tg_E0 (tg_R 4 89) "TramGodModel" "vain" cX7_vain 5 (some .int) 17 [(0, .ref (A 0)), (1, .int a1), (2, .int a2)] [] (wM G A c) 0 0 := by
  intro n
  induction n with
  | zero => intro a2 c h; exact absurd h (by simp [fX7_vain_L17])
  | succ n ih =>
    intro a2 c h
    unfold fX7_vain_L17 at h
    refine V_iload_n eX7_vain_17 2 rfl ?_
    refine V_aload_n eX7_vain_18 0 rfl ?_
    refine V_get (v := .int (c.1 0)) eX7_vain_19 inX7 0 rfl rfl 0 (Nat.le_of_ble_eq_true rfl) tw_645 rfl ?_
    refine V_icmp_ge (tgt := 78) eX7_vain_22 rfl (fun hb4 => ?_) (fun hb4 => ?_)
    · replace h := (if_pos hb4).symm.trans h
      refine V_bipush (v := (-6 : Int32)) eX7_vain_78 rfl ?_
      obtain rfl := Option.some.inj h
      exact V_ret eX7_vain_80 rfl ⟨rfl, rfl⟩
    · replace h := (if_neg hb4).symm.trans h
      refine V_aload_n eX7_vain_25 0 rfl ?_
      refine V_get (v := .ref (A 11)) eX7_vain_26 inX7 0 rfl rfl 17 (Nat.le_of_ble_eq_true rfl) tw_662 rfl ?_
      refine V_iload_n eX7_vain_29 2 rfl ?_
      obtain ⟨v5, hi5, ev5, h⟩ := ald_some h
      refine V_ialdv eX7_vain_30 11 rfl hi5 ev5 ?_
      refine V_istore_n (lv' := [(3, .int v5), (0, .ref (A 0)), (1, .int a1), (2, .int a2)]) eX7_vain_31 (Nat.le_of_ble_eq_true rfl) rfl ?_
      refine V_aload_n eX7_vain_32 1 rfl ?_
      refine V_get (v := .ref (A 11)) eX7_vain_33 inX7 0 rfl rfl 17 (Nat.le_of_ble_eq_true rfl) tw_662 rfl ?_
      refine V_iload_n eX7_vain_36 3 rfl ?_
      refine V_iconst (v := (0 : Int32)) eX7_vain_37 rfl ?_
      obtain ⟨hi6, h⟩ := ckb_some h
      refine V_iast (w' := wM G A (sA c 17 (a2).toNatClampNeg (0 : Int32))) eX7_vain_38 11 rfl hi6 rfl ?_
      refine V_aload_n eX7_vain_39 1 rfl ?_
      obtain ⟨q7, hc7, h⟩ := Option.bind_eq_some_iff.mp h
      refine V_callVi (rest := []) eX7_vain_40 (ctX7_ridersNow l G A (sA c 17 (a2).toNatClampNeg (0 : Int32)) hc7) tc_830 tw_827 tw_8 tw_829 ts_26 0 rfl rfl hdX7_ridersNow rfl ⟨Nat.le_of_ble_eq_true rfl, Nat.le_of_ble_eq_true rfl⟩ rfl (Nat.le_of_ble_eq_true rfl) ⟨Nat.zero_le _, Nat.zero_le _⟩ ?_
      refine V_iload_n eX7_vain_43 2 rfl ?_
      refine jn_elim h (fun j => ∀ (x8 : Int32), j x8 = some z → V l G (tg_Zm G (fun v w1 => v = some (.int z.1) ∧ w1 = wM G A z.2) 0 0) tg_E0 (tg_R 4 89) "TramGodModel" "vain" cX7_vain 5 (some .int) 52 [(0, .ref (A 0)), (1, .int a1), (2, .int a2), (3, .int v5)] [.int x8] (wM G A q7.2) 0 0) ?_ (fun j52 hj52 h => ?_)
      · intro x8 h
        refine V_istore (lv' := [(4, .int x8), (0, .ref (A 0)), (1, .int a1), (2, .int a2), (3, .int v5)]) eX7_vain_52 (Nat.le_of_ble_eq_true rfl) rfl ?_
        refine V_aload_n eX7_vain_54 1 rfl ?_
        refine V_get (v := .ref (A 11)) eX7_vain_55 inX7 0 rfl rfl 17 (Nat.le_of_ble_eq_true rfl) tw_662 rfl ?_
        refine V_iload_n eX7_vain_58 3 rfl ?_
        refine V_iload_n eX7_vain_59 4 rfl ?_
        obtain ⟨hi9, h⟩ := ckb_some h
        refine V_iast (w' := wM G A (sA q7.2 17 (a2).toNatClampNeg v5)) eX7_vain_60 11 rfl hi9 rfl ?_
        refine V_iload_n eX7_vain_61 4 rfl ?_
        refine jn_elim h (fun j => j () = some z → V l G (tg_Zm G (fun v w1 => v = some (.int z.1) ∧ w1 = wM G A z.2) 0 0) tg_E0 (tg_R 4 89) "TramGodModel" "vain" cX7_vain 5 (some .int) 72 [(0, .ref (A 0)), (1, .int a1), (2, .int a2)] [] (wM G A (sA q7.2 17 (a2).toNatClampNeg v5)) 0 0) ?_ (fun j72 hj72 h => ?_)
        · intro h
          refine V_iinc (v := (a2 + (1 : Int32))) (lv' := [(2, .int (a2 + (1 : Int32))), (0, .ref (A 0)), (1, .int a1)]) eX7_vain_72 2 rfl rfl (Nat.le_of_ble_eq_true rfl) rfl ?_
          refine V_goto (tgt := 17) eX7_vain_75 rfl ?_
          refine V_lv (lv' := [(0, .ref (A 0)), (1, .int a1), (2, .int (a2 + (1 : Int32)))]) [1, 2, 0] rfl ?_
          exact ih (a2 + (1 : Int32)) (sA q7.2 17 (a2).toNatClampNeg v5) h
        refine V_if_le (tgt := 72) eX7_vain_62 rfl (fun hb10 => ?_) (fun hb10 => ?_)
        · replace h := (if_pos hb10).symm.trans h
          refine V_lv (lv' := [(0, .ref (A 0)), (1, .int a1), (2, .int a2)]) [1, 2, 3] rfl ?_
          exact hj72 h
        · replace h := (if_neg hb10).symm.trans h
          refine V_iload eX7_vain_65 0 rfl ?_
          refine V_if_eq (tgt := 72) eX7_vain_67 rfl (fun hb11 => ?_) (fun hb11 => ?_)
          · replace h := (if_pos hb11).symm.trans h
            refine V_lv (lv' := [(0, .ref (A 0)), (1, .int a1), (2, .int a2)]) [1, 2, 3] rfl ?_
            exact hj72 h
          · replace h := (if_neg hb11).symm.trans h
            refine V_iload_n eX7_vain_70 3 rfl ?_
            obtain rfl := Option.some.inj h
            exact V_ret eX7_vain_71 rfl ⟨rfl, rfl⟩
      refine V_icmp_ne (tgt := 51) eX7_vain_44 rfl (fun hb12 => ?_) (fun hb12 => ?_)
      · replace h := (if_neg hb12).symm.trans h
        refine V_iconst (v := (0 : Int32)) eX7_vain_51 rfl ?_
        refine V_lv (lv' := [(0, .ref (A 0)), (1, .int a1), (2, .int a2), (3, .int v5)]) [1, 2, 3, 0] rfl ?_
        exact hj52 (0 : Int32) h
      · replace h := (if_pos hb12).symm.trans h
        refine V_iconst (v := (1 : Int32)) eX7_vain_47 rfl ?_
        refine V_goto (tgt := 52) eX7_vain_48 rfl ?_
        refine V_lv (lv' := [(0, .ref (A 0)), (1, .int a1), (2, .int a2), (3, .int v5)]) [1, 2, 3, 0] rfl ?_
        exact hj52 (1 : Int32) h
set_option maxRecDepth 20000 in
theorem ctX7_vain (l : Launch) (G : tg_G) (A : Nat → Nat) (c : SS)  {z : Int32 × SS} (h : fX7_vain c  = some z) : Mt l G yX7_vain cX7_vain 5 (some .int) (tg_R 4 89) [.ref (A 0)] (wM G A c) (fun v w1 => v = some (.int z.1) ∧ w1 = wM G A z.2) := by
  refine Mt_of2 (own := "TramGodModel") (nm := "vain") rfl rfl rfl (Nat.le_of_ble_eq_true rfl) (lv := [(0, .ref (A 0))]) rfl ?_
  unfold fX7_vain at h
  refine V_aload_n eX7_vain_0 0 rfl ?_
  obtain ⟨q1, hc1, h⟩ := Option.bind_eq_some_iff.mp h
  refine V_callVi (rest := []) eX7_vain_1 (ctX7_isRefused l G A c hc1) tc_826 tw_823 tw_8 tw_825 ts_25 0 rfl rfl hdX7_isRefused rfl ⟨Nat.le_of_ble_eq_true rfl, Nat.le_of_ble_eq_true rfl⟩ rfl (Nat.le_of_ble_eq_true rfl) ⟨Nat.zero_le _, Nat.zero_le _⟩ ?_
  refine V_if_eq (tgt := 10) eX7_vain_4 rfl (fun hb2 => ?_) (fun hb2 => ?_)
  · replace h := (if_pos hb2).symm.trans h
    refine V_aload_n eX7_vain_10 0 rfl ?_
    obtain ⟨q3, hc3, h⟩ := Option.bind_eq_some_iff.mp h
    refine V_callVi (rest := []) eX7_vain_11 (ctX7_ridersNow l G A q1.2 hc3) tc_830 tw_827 tw_8 tw_829 ts_26 0 rfl rfl hdX7_ridersNow rfl ⟨Nat.le_of_ble_eq_true rfl, Nat.le_of_ble_eq_true rfl⟩ rfl (Nat.le_of_ble_eq_true rfl) ⟨Nat.zero_le _, Nat.zero_le _⟩ ?_
    refine V_istore_n (lv' := [(1, .int q3.1), (0, .ref (A 0))]) eX7_vain_14 (Nat.le_of_ble_eq_true rfl) rfl ?_
    refine V_iconst (v := (0 : Int32)) eX7_vain_15 rfl ?_
    refine V_istore_n (lv' := [(2, .int (0 : Int32)), (1, .int q3.1), (0, .ref (A 0))]) eX7_vain_16 (Nat.le_of_ble_eq_true rfl) rfl ?_
    refine V_lv (lv' := [(0, .ref (A 0)), (1, .int q3.1), (2, .int (0 : Int32))]) [2, 1, 0] rfl ?_
    refine ctX7_vain_L17 l G A q3.1 fu (0 : Int32) q3.2 h
  · replace h := (if_neg hb2).symm.trans h
    refine V_bipush (v := (-5 : Int32)) eX7_vain_7 rfl ?_
    obtain rfl := Option.some.inj h
    exact V_ret eX7_vain_9 rfl ⟨rfl, rfl⟩
theorem hdX7_noHold : yX7_noHold.cls ≠ "java/lang/invoke/MethodHandle" ∧ yX7_noHold.cls ≠ "java/lang/invoke/VarHandle" ∧ (parseMethodDescriptor yX7_noHold.desc).map (fun d => d.parameters.length) = some 0 := by decide +kernel
theorem eX7_noHold_0 : Dc cX7_noHold 0 (.iconst 0) 1 1 := ⟨by decide +kernel, rfl⟩
theorem eX7_noHold_1 : Dc cX7_noHold 1 (.istore_n 1) 1 2 := ⟨by decide +kernel, rfl⟩
theorem eX7_noHold_2 : Dc cX7_noHold 2 (.iload_n 1) 1 3 := ⟨by decide +kernel, rfl⟩
theorem eX7_noHold_3 : Dc cX7_noHold 3 (.bipush 6) 2 5 := ⟨by decide +kernel, rfl⟩
theorem eX7_noHold_5 : Dc cX7_noHold 5 (.if_icmp .ge 16) 3 8 := ⟨by decide +kernel, rfl⟩
theorem eX7_noHold_8 : Dc cX7_noHold 8 (.aload_n 0) 1 9 := ⟨by decide +kernel, rfl⟩
theorem eX7_noHold_9 : Dc cX7_noHold 9 (.getfield 40) 3 12 := ⟨by decide +kernel, rfl⟩
theorem eX7_noHold_12 : Dc cX7_noHold 12 (.iload_n 1) 1 13 := ⟨by decide +kernel, rfl⟩
theorem eX7_noHold_13 : Dc cX7_noHold 13 (.iconst 0) 1 14 := ⟨by decide +kernel, rfl⟩
theorem eX7_noHold_14 : Dc cX7_noHold 14 (.iastore) 1 15 := ⟨by decide +kernel, rfl⟩
theorem eX7_noHold_15 : Dc cX7_noHold 15 (.iinc 1 1) 3 18 := ⟨by decide +kernel, rfl⟩
theorem eX7_noHold_18 : Dc cX7_noHold 18 (.goto (-16)) 3 21 := ⟨by decide +kernel, rfl⟩
theorem eX7_noHold_21 : Dc cX7_noHold 21 (.return_) 1 22 := ⟨by decide +kernel, rfl⟩
def fX7_noHold_L2   : Nat → Int32 → SS → Option (SS)
  | 0, _, _ => none
  | n + 1, a1, c => if (6 : Int32) ≤ a1 then some c else ckb 6 a1 (fX7_noHold_L2  n (a1 + (1 : Int32)) (sA c 17 (a1).toNatClampNeg (0 : Int32)))
def fX7_noHold (c : SS)  : Option (SS) := fX7_noHold_L2  fu (0 : Int32) c
set_option maxRecDepth 20000 in
theorem ctX7_noHold_L2 (l : Launch) (G : tg_G) (A : Nat → Nat)   {z : SS}  : ∀ (n : Nat) (a1 : Int32) (c : SS), fX7_noHold_L2  n a1 c = some z → V l G (tg_Zm G (fun v w1 => v = none ∧ w1 = wM G A z) 0 0) tg_E0 (tg_R 0 0) "TramGodModel" "noHold" cX7_noHold 2 none 2 [(0, .ref (A 0)), (1, .int a1)] [] (wM G A c) 0 0 := by
  intro n
  induction n with
  | zero => intro a1 c h; exact absurd h (by simp [fX7_noHold_L2])
  | succ n ih =>
    intro a1 c h
    unfold fX7_noHold_L2 at h
    refine V_iload_n eX7_noHold_2 1 rfl ?_
    refine V_bipush (v := (6 : Int32)) eX7_noHold_3 rfl ?_
    refine V_icmp_ge (tgt := 21) eX7_noHold_5 rfl (fun hb1 => ?_) (fun hb1 => ?_)
    · replace h := (if_pos hb1).symm.trans h
      obtain rfl := Option.some.inj h
      exact V_vret eX7_noHold_21 rfl ⟨rfl, rfl⟩
    · replace h := (if_neg hb1).symm.trans h
      refine V_aload_n eX7_noHold_8 0 rfl ?_
      refine V_get (v := .ref (A 11)) eX7_noHold_9 inX7 0 rfl rfl 17 (Nat.le_of_ble_eq_true rfl) tw_662 rfl ?_
      refine V_iload_n eX7_noHold_12 1 rfl ?_
      refine V_iconst (v := (0 : Int32)) eX7_noHold_13 rfl ?_
      obtain ⟨hi2, h⟩ := ckb_some h
      refine V_iast (w' := wM G A (sA c 17 (a1).toNatClampNeg (0 : Int32))) eX7_noHold_14 11 rfl hi2 rfl ?_
      refine V_iinc (v := (a1 + (1 : Int32))) (lv' := [(1, .int (a1 + (1 : Int32))), (0, .ref (A 0))]) eX7_noHold_15 1 rfl rfl (Nat.le_of_ble_eq_true rfl) rfl ?_
      refine V_goto (tgt := 2) eX7_noHold_18 rfl ?_
      refine V_lv (lv' := [(0, .ref (A 0)), (1, .int (a1 + (1 : Int32)))]) [1, 0] rfl ?_
      exact ih (a1 + (1 : Int32)) (sA c 17 (a1).toNatClampNeg (0 : Int32)) h
set_option maxRecDepth 20000 in
theorem ctX7_noHold (l : Launch) (G : tg_G) (A : Nat → Nat) (c : SS)  {z : SS} (h : fX7_noHold c  = some z) : Mt l G yX7_noHold cX7_noHold 2 none (tg_R 0 0) [.ref (A 0)] (wM G A c) (fun v w1 => v = none ∧ w1 = wM G A z) := by
  refine Mt_of2 (own := "TramGodModel") (nm := "noHold") rfl rfl rfl (Nat.le_of_ble_eq_true rfl) (lv := [(0, .ref (A 0))]) rfl ?_
  unfold fX7_noHold at h
  refine V_iconst (v := (0 : Int32)) eX7_noHold_0 rfl ?_
  refine V_istore_n (lv' := [(1, .int (0 : Int32)), (0, .ref (A 0))]) eX7_noHold_1 (Nat.le_of_ble_eq_true rfl) rfl ?_
  refine V_lv (lv' := [(0, .ref (A 0)), (1, .int (0 : Int32))]) [1, 0] rfl ?_
  refine ctX7_noHold_L2 l G A fu (0 : Int32) c h
theorem hdX7_heldIn : yX7_heldIn.cls ≠ "java/lang/invoke/MethodHandle" ∧ yX7_heldIn.cls ≠ "java/lang/invoke/VarHandle" ∧ (parseMethodDescriptor yX7_heldIn.desc).map (fun d => d.parameters.length) = some 0 := by decide +kernel
theorem eX7_heldIn_0 : Dc cX7_heldIn 0 (.iconst 0) 1 1 := ⟨by decide +kernel, rfl⟩
theorem eX7_heldIn_1 : Dc cX7_heldIn 1 (.istore_n 1) 1 2 := ⟨by decide +kernel, rfl⟩
theorem eX7_heldIn_2 : Dc cX7_heldIn 2 (.iconst 0) 1 3 := ⟨by decide +kernel, rfl⟩
theorem eX7_heldIn_3 : Dc cX7_heldIn 3 (.istore_n 2) 1 4 := ⟨by decide +kernel, rfl⟩
theorem eX7_heldIn_4 : Dc cX7_heldIn 4 (.iload_n 2) 1 5 := ⟨by decide +kernel, rfl⟩
theorem eX7_heldIn_5 : Dc cX7_heldIn 5 (.aload_n 0) 1 6 := ⟨by decide +kernel, rfl⟩
theorem eX7_heldIn_6 : Dc cX7_heldIn 6 (.getfield 69) 3 9 := ⟨by decide +kernel, rfl⟩
theorem eX7_heldIn_9 : Dc cX7_heldIn 9 (.if_icmp .ge 18) 3 12 := ⟨by decide +kernel, rfl⟩
theorem eX7_heldIn_12 : Dc cX7_heldIn 12 (.iload_n 1) 1 13 := ⟨by decide +kernel, rfl⟩
theorem eX7_heldIn_13 : Dc cX7_heldIn 13 (.aload_n 0) 1 14 := ⟨by decide +kernel, rfl⟩
theorem eX7_heldIn_14 : Dc cX7_heldIn 14 (.getfield 40) 3 17 := ⟨by decide +kernel, rfl⟩
theorem eX7_heldIn_17 : Dc cX7_heldIn 17 (.iload_n 2) 1 18 := ⟨by decide +kernel, rfl⟩
theorem eX7_heldIn_18 : Dc cX7_heldIn 18 (.iaload) 1 19 := ⟨by decide +kernel, rfl⟩
theorem eX7_heldIn_19 : Dc cX7_heldIn 19 (.iadd) 1 20 := ⟨by decide +kernel, rfl⟩
theorem eX7_heldIn_20 : Dc cX7_heldIn 20 (.istore_n 1) 1 21 := ⟨by decide +kernel, rfl⟩
theorem eX7_heldIn_21 : Dc cX7_heldIn 21 (.iinc 2 1) 3 24 := ⟨by decide +kernel, rfl⟩
theorem eX7_heldIn_24 : Dc cX7_heldIn 24 (.goto (-20)) 3 27 := ⟨by decide +kernel, rfl⟩
theorem eX7_heldIn_27 : Dc cX7_heldIn 27 (.iload_n 1) 1 28 := ⟨by decide +kernel, rfl⟩
theorem eX7_heldIn_28 : Dc cX7_heldIn 28 (.ireturn) 1 29 := ⟨by decide +kernel, rfl⟩
def fX7_heldIn_L4  (c : SS)  : Nat → Int32 → Int32 → Option (Int32)
  | 0, _, _ => none
  | n + 1, a1, a2 => if (c.1 0) ≤ a2 then some a1 else ald 6 (c.2 17) a2 (fun v2 => fX7_heldIn_L4 c n (a1 + v2) (a2 + (1 : Int32)))
def fX7_heldIn (c : SS)  : Option (Int32) := fX7_heldIn_L4 c fu (0 : Int32) (0 : Int32)
set_option maxRecDepth 20000 in
theorem ctX7_heldIn_L4 (l : Launch) (G : tg_G) (A : Nat → Nat)  (c : SS)  {z : Int32}  : ∀ (n : Nat) (a1 : Int32) (a2 : Int32), fX7_heldIn_L4 c n a1 a2 = some z → V l G (tg_Zm G (fun v w1 => v = some (.int z) ∧ w1 = wM G A c) 0 0) tg_E0 (tg_R 0 0) "TramGodModel" "heldIn" cX7_heldIn 3 (some .int) 4 [(0, .ref (A 0)), (1, .int a1), (2, .int a2)] [] (wM G A c) 0 0 := by
  intro n
  induction n with
  | zero => intro a1 a2 h; exact absurd h (by simp [fX7_heldIn_L4])
  | succ n ih =>
    intro a1 a2 h
    unfold fX7_heldIn_L4 at h
    refine V_iload_n eX7_heldIn_4 2 rfl ?_
    refine V_aload_n eX7_heldIn_5 0 rfl ?_
    refine V_get (v := .int (c.1 0)) eX7_heldIn_6 inX7 0 rfl rfl 0 (Nat.le_of_ble_eq_true rfl) tw_645 rfl ?_
    refine V_icmp_ge (tgt := 27) eX7_heldIn_9 rfl (fun hb1 => ?_) (fun hb1 => ?_)
    · replace h := (if_pos hb1).symm.trans h
      refine V_iload_n eX7_heldIn_27 1 rfl ?_
      obtain rfl := Option.some.inj h
      exact V_ret eX7_heldIn_28 rfl ⟨rfl, rfl⟩
    · replace h := (if_neg hb1).symm.trans h
      refine V_iload_n eX7_heldIn_12 1 rfl ?_
      refine V_aload_n eX7_heldIn_13 0 rfl ?_
      refine V_get (v := .ref (A 11)) eX7_heldIn_14 inX7 0 rfl rfl 17 (Nat.le_of_ble_eq_true rfl) tw_662 rfl ?_
      refine V_iload_n eX7_heldIn_17 2 rfl ?_
      obtain ⟨v2, hi2, ev2, h⟩ := ald_some h
      refine V_ialdv eX7_heldIn_18 11 rfl hi2 ev2 ?_
      refine V_iadd eX7_heldIn_19 ?_
      refine V_istore_n (lv' := [(1, .int (a1 + v2)), (0, .ref (A 0)), (2, .int a2)]) eX7_heldIn_20 (Nat.le_of_ble_eq_true rfl) rfl ?_
      refine V_iinc (v := (a2 + (1 : Int32))) (lv' := [(2, .int (a2 + (1 : Int32))), (1, .int (a1 + v2)), (0, .ref (A 0))]) eX7_heldIn_21 2 rfl rfl (Nat.le_of_ble_eq_true rfl) rfl ?_
      refine V_goto (tgt := 4) eX7_heldIn_24 rfl ?_
      refine V_lv (lv' := [(0, .ref (A 0)), (1, .int (a1 + v2)), (2, .int (a2 + (1 : Int32)))]) [2, 1, 0] rfl ?_
      exact ih (a1 + v2) (a2 + (1 : Int32)) h
set_option maxRecDepth 20000 in
theorem ctX7_heldIn (l : Launch) (G : tg_G) (A : Nat → Nat) (c : SS)  {z : Int32} (h : fX7_heldIn c  = some z) : Mt l G yX7_heldIn cX7_heldIn 3 (some .int) (tg_R 0 0) [.ref (A 0)] (wM G A c) (fun v w1 => v = some (.int z) ∧ w1 = wM G A c) := by
  refine Mt_of2 (own := "TramGodModel") (nm := "heldIn") rfl rfl rfl (Nat.le_of_ble_eq_true rfl) (lv := [(0, .ref (A 0))]) rfl ?_
  unfold fX7_heldIn at h
  refine V_iconst (v := (0 : Int32)) eX7_heldIn_0 rfl ?_
  refine V_istore_n (lv' := [(1, .int (0 : Int32)), (0, .ref (A 0))]) eX7_heldIn_1 (Nat.le_of_ble_eq_true rfl) rfl ?_
  refine V_iconst (v := (0 : Int32)) eX7_heldIn_2 rfl ?_
  refine V_istore_n (lv' := [(2, .int (0 : Int32)), (1, .int (0 : Int32)), (0, .ref (A 0))]) eX7_heldIn_3 (Nat.le_of_ble_eq_true rfl) rfl ?_
  refine V_lv (lv' := [(0, .ref (A 0)), (1, .int (0 : Int32)), (2, .int (0 : Int32))]) [2, 1, 0] rfl ?_
  refine ctX7_heldIn_L4 l G A c fu (0 : Int32) (0 : Int32) h
theorem hdX7_nextHold : yX7_nextHold.cls ≠ "java/lang/invoke/MethodHandle" ∧ yX7_nextHold.cls ≠ "java/lang/invoke/VarHandle" ∧ (parseMethodDescriptor yX7_nextHold.desc).map (fun d => d.parameters.length) = some 1 := by decide +kernel
theorem eX7_nextHold_0 : Dc cX7_nextHold 0 (.aload_n 0) 1 1 := ⟨by decide +kernel, rfl⟩
theorem eX7_nextHold_1 : Dc cX7_nextHold 1 (.getfield 69) 3 4 := ⟨by decide +kernel, rfl⟩
theorem eX7_nextHold_4 : Dc cX7_nextHold 4 (.iconst 1) 1 5 := ⟨by decide +kernel, rfl⟩
theorem eX7_nextHold_5 : Dc cX7_nextHold 5 (.isub) 1 6 := ⟨by decide +kernel, rfl⟩
theorem eX7_nextHold_6 : Dc cX7_nextHold 6 (.istore_n 2) 1 7 := ⟨by decide +kernel, rfl⟩
theorem eX7_nextHold_7 : Dc cX7_nextHold 7 (.aload_n 0) 1 8 := ⟨by decide +kernel, rfl⟩
theorem eX7_nextHold_8 : Dc cX7_nextHold 8 (.invokevirtual 167) 3 11 := ⟨by decide +kernel, rfl⟩
theorem eX7_nextHold_11 : Dc cX7_nextHold 11 (.istore_n 3) 1 12 := ⟨by decide +kernel, rfl⟩
theorem eX7_nextHold_12 : Dc cX7_nextHold 12 (.iconst 0) 1 13 := ⟨by decide +kernel, rfl⟩
theorem eX7_nextHold_13 : Dc cX7_nextHold 13 (.istore 4) 2 15 := ⟨by decide +kernel, rfl⟩
theorem eX7_nextHold_15 : Dc cX7_nextHold 15 (.iload_n 2) 1 16 := ⟨by decide +kernel, rfl⟩
theorem eX7_nextHold_16 : Dc cX7_nextHold 16 (.ifCond .lt 72) 3 19 := ⟨by decide +kernel, rfl⟩
theorem eX7_nextHold_19 : Dc cX7_nextHold 19 (.iload 4) 2 21 := ⟨by decide +kernel, rfl⟩
theorem eX7_nextHold_21 : Dc cX7_nextHold 21 (.ifCond .ne 67) 3 24 := ⟨by decide +kernel, rfl⟩
theorem eX7_nextHold_24 : Dc cX7_nextHold 24 (.aload_n 0) 1 25 := ⟨by decide +kernel, rfl⟩
theorem eX7_nextHold_25 : Dc cX7_nextHold 25 (.iload_n 2) 1 26 := ⟨by decide +kernel, rfl⟩
theorem eX7_nextHold_26 : Dc cX7_nextHold 26 (.invokevirtual 131) 3 29 := ⟨by decide +kernel, rfl⟩
theorem eX7_nextHold_29 : Dc cX7_nextHold 29 (.ifCond .eq 37) 3 32 := ⟨by decide +kernel, rfl⟩
theorem eX7_nextHold_32 : Dc cX7_nextHold 32 (.aload_n 0) 1 33 := ⟨by decide +kernel, rfl⟩
theorem eX7_nextHold_33 : Dc cX7_nextHold 33 (.getfield 40) 3 36 := ⟨by decide +kernel, rfl⟩
theorem eX7_nextHold_36 : Dc cX7_nextHold 36 (.iload_n 2) 1 37 := ⟨by decide +kernel, rfl⟩
theorem eX7_nextHold_37 : Dc cX7_nextHold 37 (.iaload) 1 38 := ⟨by decide +kernel, rfl⟩
theorem eX7_nextHold_38 : Dc cX7_nextHold 38 (.aload_n 0) 1 39 := ⟨by decide +kernel, rfl⟩
theorem eX7_nextHold_39 : Dc cX7_nextHold 39 (.getfield 76) 3 42 := ⟨by decide +kernel, rfl⟩
theorem eX7_nextHold_42 : Dc cX7_nextHold 42 (.if_icmp .ge 24) 3 45 := ⟨by decide +kernel, rfl⟩
theorem eX7_nextHold_45 : Dc cX7_nextHold 45 (.iload_n 3) 1 46 := ⟨by decide +kernel, rfl⟩
theorem eX7_nextHold_46 : Dc cX7_nextHold 46 (.iload_n 1) 1 47 := ⟨by decide +kernel, rfl⟩
theorem eX7_nextHold_47 : Dc cX7_nextHold 47 (.if_icmp .ge 19) 3 50 := ⟨by decide +kernel, rfl⟩
theorem eX7_nextHold_50 : Dc cX7_nextHold 50 (.aload_n 0) 1 51 := ⟨by decide +kernel, rfl⟩
theorem eX7_nextHold_51 : Dc cX7_nextHold 51 (.getfield 40) 3 54 := ⟨by decide +kernel, rfl⟩
theorem eX7_nextHold_54 : Dc cX7_nextHold 54 (.iload_n 2) 1 55 := ⟨by decide +kernel, rfl⟩
theorem eX7_nextHold_55 : Dc cX7_nextHold 55 (.dup2) 1 56 := ⟨by decide +kernel, rfl⟩
theorem eX7_nextHold_56 : Dc cX7_nextHold 56 (.iaload) 1 57 := ⟨by decide +kernel, rfl⟩
theorem eX7_nextHold_57 : Dc cX7_nextHold 57 (.iconst 1) 1 58 := ⟨by decide +kernel, rfl⟩
theorem eX7_nextHold_58 : Dc cX7_nextHold 58 (.iadd) 1 59 := ⟨by decide +kernel, rfl⟩
theorem eX7_nextHold_59 : Dc cX7_nextHold 59 (.iastore) 1 60 := ⟨by decide +kernel, rfl⟩
theorem eX7_nextHold_60 : Dc cX7_nextHold 60 (.iconst 1) 1 61 := ⟨by decide +kernel, rfl⟩
theorem eX7_nextHold_61 : Dc cX7_nextHold 61 (.istore 4) 2 63 := ⟨by decide +kernel, rfl⟩
theorem eX7_nextHold_63 : Dc cX7_nextHold 63 (.goto (-48)) 3 66 := ⟨by decide +kernel, rfl⟩
theorem eX7_nextHold_66 : Dc cX7_nextHold 66 (.iload_n 3) 1 67 := ⟨by decide +kernel, rfl⟩
theorem eX7_nextHold_67 : Dc cX7_nextHold 67 (.aload_n 0) 1 68 := ⟨by decide +kernel, rfl⟩
theorem eX7_nextHold_68 : Dc cX7_nextHold 68 (.getfield 40) 3 71 := ⟨by decide +kernel, rfl⟩
theorem eX7_nextHold_71 : Dc cX7_nextHold 71 (.iload_n 2) 1 72 := ⟨by decide +kernel, rfl⟩
theorem eX7_nextHold_72 : Dc cX7_nextHold 72 (.iaload) 1 73 := ⟨by decide +kernel, rfl⟩
theorem eX7_nextHold_73 : Dc cX7_nextHold 73 (.isub) 1 74 := ⟨by decide +kernel, rfl⟩
theorem eX7_nextHold_74 : Dc cX7_nextHold 74 (.istore_n 3) 1 75 := ⟨by decide +kernel, rfl⟩
theorem eX7_nextHold_75 : Dc cX7_nextHold 75 (.aload_n 0) 1 76 := ⟨by decide +kernel, rfl⟩
theorem eX7_nextHold_76 : Dc cX7_nextHold 76 (.getfield 40) 3 79 := ⟨by decide +kernel, rfl⟩
theorem eX7_nextHold_79 : Dc cX7_nextHold 79 (.iload_n 2) 1 80 := ⟨by decide +kernel, rfl⟩
theorem eX7_nextHold_80 : Dc cX7_nextHold 80 (.iconst 0) 1 81 := ⟨by decide +kernel, rfl⟩
theorem eX7_nextHold_81 : Dc cX7_nextHold 81 (.iastore) 1 82 := ⟨by decide +kernel, rfl⟩
theorem eX7_nextHold_82 : Dc cX7_nextHold 82 (.iinc 2 (-1)) 3 85 := ⟨by decide +kernel, rfl⟩
theorem eX7_nextHold_85 : Dc cX7_nextHold 85 (.goto (-70)) 3 88 := ⟨by decide +kernel, rfl⟩
theorem eX7_nextHold_88 : Dc cX7_nextHold 88 (.iload 4) 2 90 := ⟨by decide +kernel, rfl⟩
theorem eX7_nextHold_90 : Dc cX7_nextHold 90 (.ireturn) 1 91 := ⟨by decide +kernel, rfl⟩
def fX7_nextHold_L15  (a1 : Int32) : Nat → Int32 → Int32 → Int32 → SS → Option (Int32 × SS)
  | 0, _, _, _, _ => none
  | n + 1, a2, a3, a4, c => if a2 < (0 : Int32) then gz a4 (some (a4, c)) else if a4 = (0 : Int32) then jn (fun (_ : Unit) => ald 6 (c.2 17) a2 (fun v6 => ckb 6 a2 (fX7_nextHold_L15 a1 n (a2 + (-1 : Int32)) (a3 - v6) a4 (sA c 17 (a2).toNatClampNeg (0 : Int32))))) (fun j66 => if (fX7_isOpen c a2) = (0 : Int32) then j66 () else ald 6 (c.2 17) a2 (fun v9 => if (c.1 11) ≤ v9 then j66 () else if a1 ≤ a3 then j66 () else ald 6 (c.2 17) a2 (fun v12 => ckb 6 a2 (fX7_nextHold_L15 a1 n a2 a3 (1 : Int32) (sA c 17 (a2).toNatClampNeg (v12 + (1 : Int32))))))) else gz a4 (some (a4, c))
def fX7_nextHold (c : SS) (p1 : Int32) : Option (Int32 × SS) := Option.bind (fX7_heldIn c) (fun q1 => fX7_nextHold_L15 p1 fu ((c.1 0) - (1 : Int32)) q1 (0 : Int32) c)
set_option maxRecDepth 20000 in
theorem ctX7_nextHold_L15 (l : Launch) (G : tg_G) (A : Nat → Nat)  (a1 : Int32) {z : Int32 × SS}  : ∀ (n : Nat) (a2 : Int32) (a3 : Int32) (a4 : Int32) (c : SS), fX7_nextHold_L15 a1 n a2 a3 a4 c = some z → V l G (tg_Zm G (fun v w1 => v = some (.int z.1) ∧ w1 = wM G A z.2) 0 0) tg_E0 (tg_R 1 22) "TramGodModel" "nextHold" cX7_nextHold 5 (some .boolean) 15 [(0, .ref (A 0)), (1, .int a1), (2, .int a2), (3, .int a3), (4, .int a4)] [] (wM G A c) 0 0 := by
  intro n
  induction n with
  | zero => intro a2 a3 a4 c h; exact absurd h (by simp [fX7_nextHold_L15])
  | succ n ih =>
    intro a2 a3 a4 c h
    unfold fX7_nextHold_L15 at h
    refine V_iload_n eX7_nextHold_15 2 rfl ?_
    refine V_if_lt (tgt := 88) eX7_nextHold_16 rfl (fun hb2 => ?_) (fun hb2 => ?_)
    · replace h := (if_pos hb2).symm.trans h
      refine V_iload eX7_nextHold_88 4 rfl ?_
      obtain ⟨hz3, h⟩ := gz_some h
      obtain rfl := Option.some.inj h
      exact V_zret eX7_nextHold_90 rfl hz3 ⟨rfl, rfl⟩
    · replace h := (if_neg hb2).symm.trans h
      refine V_iload eX7_nextHold_19 4 rfl ?_
      refine V_if_ne (tgt := 88) eX7_nextHold_21 rfl (fun hb4 => ?_) (fun hb4 => ?_)
      · replace h := (if_neg hb4).symm.trans h
        refine V_iload eX7_nextHold_88 4 rfl ?_
        obtain ⟨hz5, h⟩ := gz_some h
        obtain rfl := Option.some.inj h
        exact V_zret eX7_nextHold_90 rfl hz5 ⟨rfl, rfl⟩
      · replace h := (if_pos hb4).symm.trans h
        refine V_aload_n eX7_nextHold_24 0 rfl ?_
        refine V_iload_n eX7_nextHold_25 2 rfl ?_
        refine V_callVi (rest := []) eX7_nextHold_26 (ctX7_isOpen l G A c a2 rfl) tc_818 tw_815 tw_8 tw_817 ts_24 0 rfl rfl hdX7_isOpen rfl ⟨Nat.le_of_ble_eq_true rfl, Nat.le_of_ble_eq_true rfl⟩ rfl (Nat.le_of_ble_eq_true rfl) ⟨Nat.zero_le _, Nat.zero_le _⟩ ?_
        refine jn_elim h (fun j => j () = some z → V l G (tg_Zm G (fun v w1 => v = some (.int z.1) ∧ w1 = wM G A z.2) 0 0) tg_E0 (tg_R 1 22) "TramGodModel" "nextHold" cX7_nextHold 5 (some .boolean) 66 [(0, .ref (A 0)), (1, .int a1), (2, .int a2), (3, .int a3), (4, .int a4)] [] (wM G A c) 0 0) ?_ (fun j66 hj66 h => ?_)
        · intro h
          refine V_iload_n eX7_nextHold_66 3 rfl ?_
          refine V_aload_n eX7_nextHold_67 0 rfl ?_
          refine V_get (v := .ref (A 11)) eX7_nextHold_68 inX7 0 rfl rfl 17 (Nat.le_of_ble_eq_true rfl) tw_662 rfl ?_
          refine V_iload_n eX7_nextHold_71 2 rfl ?_
          obtain ⟨v6, hi6, ev6, h⟩ := ald_some h
          refine V_ialdv eX7_nextHold_72 11 rfl hi6 ev6 ?_
          refine V_isub eX7_nextHold_73 ?_
          refine V_istore_n (lv' := [(3, .int (a3 - v6)), (0, .ref (A 0)), (1, .int a1), (2, .int a2), (4, .int a4)]) eX7_nextHold_74 (Nat.le_of_ble_eq_true rfl) rfl ?_
          refine V_aload_n eX7_nextHold_75 1 rfl ?_
          refine V_get (v := .ref (A 11)) eX7_nextHold_76 inX7 0 rfl rfl 17 (Nat.le_of_ble_eq_true rfl) tw_662 rfl ?_
          refine V_iload_n eX7_nextHold_79 3 rfl ?_
          refine V_iconst (v := (0 : Int32)) eX7_nextHold_80 rfl ?_
          obtain ⟨hi7, h⟩ := ckb_some h
          refine V_iast (w' := wM G A (sA c 17 (a2).toNatClampNeg (0 : Int32))) eX7_nextHold_81 11 rfl hi7 rfl ?_
          refine V_iinc (v := (a2 + (-1 : Int32))) (lv' := [(2, .int (a2 + (-1 : Int32))), (3, .int (a3 - v6)), (0, .ref (A 0)), (1, .int a1), (4, .int a4)]) eX7_nextHold_82 3 rfl rfl (Nat.le_of_ble_eq_true rfl) rfl ?_
          refine V_goto (tgt := 15) eX7_nextHold_85 rfl ?_
          refine V_lv (lv' := [(0, .ref (A 0)), (1, .int a1), (2, .int (a2 + (-1 : Int32))), (3, .int (a3 - v6)), (4, .int a4)]) [2, 3, 0, 1, 4] rfl ?_
          exact ih (a2 + (-1 : Int32)) (a3 - v6) a4 (sA c 17 (a2).toNatClampNeg (0 : Int32)) h
        refine V_if_eq (tgt := 66) eX7_nextHold_29 rfl (fun hb8 => ?_) (fun hb8 => ?_)
        · replace h := (if_pos hb8).symm.trans h
          exact hj66 h
        · replace h := (if_neg hb8).symm.trans h
          refine V_aload_n eX7_nextHold_32 0 rfl ?_
          refine V_get (v := .ref (A 11)) eX7_nextHold_33 inX7 0 rfl rfl 17 (Nat.le_of_ble_eq_true rfl) tw_662 rfl ?_
          refine V_iload_n eX7_nextHold_36 2 rfl ?_
          obtain ⟨v9, hi9, ev9, h⟩ := ald_some h
          refine V_ialdv eX7_nextHold_37 11 rfl hi9 ev9 ?_
          refine V_aload_n eX7_nextHold_38 0 rfl ?_
          refine V_get (v := .int (c.1 11)) eX7_nextHold_39 inX7 0 rfl rfl 11 (Nat.le_of_ble_eq_true rfl) tw_656 rfl ?_
          refine V_icmp_ge (tgt := 66) eX7_nextHold_42 rfl (fun hb10 => ?_) (fun hb10 => ?_)
          · replace h := (if_pos hb10).symm.trans h
            exact hj66 h
          · replace h := (if_neg hb10).symm.trans h
            refine V_iload_n eX7_nextHold_45 3 rfl ?_
            refine V_iload_n eX7_nextHold_46 1 rfl ?_
            refine V_icmp_ge (tgt := 66) eX7_nextHold_47 rfl (fun hb11 => ?_) (fun hb11 => ?_)
            · replace h := (if_pos hb11).symm.trans h
              exact hj66 h
            · replace h := (if_neg hb11).symm.trans h
              refine V_aload_n eX7_nextHold_50 0 rfl ?_
              refine V_get (v := .ref (A 11)) eX7_nextHold_51 inX7 0 rfl rfl 17 (Nat.le_of_ble_eq_true rfl) tw_662 rfl ?_
              refine V_iload_n eX7_nextHold_54 2 rfl ?_
              refine V_dup2 eX7_nextHold_55 rfl rfl ?_
              obtain ⟨v12, hi12, ev12, h⟩ := ald_some h
              refine V_ialdv eX7_nextHold_56 11 rfl hi12 ev12 ?_
              refine V_iconst (v := (1 : Int32)) eX7_nextHold_57 rfl ?_
              refine V_iadd eX7_nextHold_58 ?_
              obtain ⟨hi13, h⟩ := ckb_some h
              refine V_iast (w' := wM G A (sA c 17 (a2).toNatClampNeg (v12 + (1 : Int32)))) eX7_nextHold_59 11 rfl hi13 rfl ?_
              refine V_iconst (v := (1 : Int32)) eX7_nextHold_60 rfl ?_
              refine V_istore (lv' := [(4, .int (1 : Int32)), (0, .ref (A 0)), (1, .int a1), (2, .int a2), (3, .int a3)]) eX7_nextHold_61 (Nat.le_of_ble_eq_true rfl) rfl ?_
              refine V_goto (tgt := 15) eX7_nextHold_63 rfl ?_
              refine V_lv (lv' := [(0, .ref (A 0)), (1, .int a1), (2, .int a2), (3, .int a3), (4, .int (1 : Int32))]) [1, 2, 3, 4, 0] rfl ?_
              exact ih a2 a3 (1 : Int32) (sA c 17 (a2).toNatClampNeg (v12 + (1 : Int32))) h
set_option maxRecDepth 20000 in
theorem ctX7_nextHold (l : Launch) (G : tg_G) (A : Nat → Nat) (c : SS) (p1 : Int32) {z : Int32 × SS} (h : fX7_nextHold c p1 = some z) : Mt l G yX7_nextHold cX7_nextHold 5 (some .boolean) (tg_R 1 22) [.ref (A 0), .int p1] (wM G A c) (fun v w1 => v = some (.int z.1) ∧ w1 = wM G A z.2) := by
  refine Mt_of2 (own := "TramGodModel") (nm := "nextHold") rfl rfl rfl (Nat.le_of_ble_eq_true rfl) (lv := [(0, .ref (A 0)), (1, .int p1)]) rfl ?_
  unfold fX7_nextHold at h
  refine V_aload_n eX7_nextHold_0 0 rfl ?_
  refine V_get (v := .int (c.1 0)) eX7_nextHold_1 inX7 0 rfl rfl 0 (Nat.le_of_ble_eq_true rfl) tw_645 rfl ?_
  refine V_iconst (v := (1 : Int32)) eX7_nextHold_4 rfl ?_
  refine V_isub eX7_nextHold_5 ?_
  refine V_istore_n (lv' := [(2, .int ((c.1 0) - (1 : Int32))), (0, .ref (A 0)), (1, .int p1)]) eX7_nextHold_6 (Nat.le_of_ble_eq_true rfl) rfl ?_
  refine V_aload_n eX7_nextHold_7 1 rfl ?_
  obtain ⟨q1, hc1, h⟩ := Option.bind_eq_some_iff.mp h
  refine V_callVi (rest := []) eX7_nextHold_8 (ctX7_heldIn l G A c hc1) tc_883 tw_880 tw_8 tw_882 ts_35 0 rfl rfl hdX7_heldIn rfl ⟨Nat.le_of_ble_eq_true rfl, Nat.le_of_ble_eq_true rfl⟩ rfl (Nat.le_of_ble_eq_true rfl) ⟨Nat.zero_le _, Nat.zero_le _⟩ ?_
  refine V_istore_n (lv' := [(3, .int q1), (2, .int ((c.1 0) - (1 : Int32))), (0, .ref (A 0)), (1, .int p1)]) eX7_nextHold_11 (Nat.le_of_ble_eq_true rfl) rfl ?_
  refine V_iconst (v := (0 : Int32)) eX7_nextHold_12 rfl ?_
  refine V_istore (lv' := [(4, .int (0 : Int32)), (3, .int q1), (2, .int ((c.1 0) - (1 : Int32))), (0, .ref (A 0)), (1, .int p1)]) eX7_nextHold_13 (Nat.le_of_ble_eq_true rfl) rfl ?_
  refine V_lv (lv' := [(0, .ref (A 0)), (1, .int p1), (2, .int ((c.1 0) - (1 : Int32))), (3, .int q1), (4, .int (0 : Int32))]) [3, 4, 2, 1, 0] rfl ?_
  refine ctX7_nextHold_L15 l G A p1 fu ((c.1 0) - (1 : Int32)) q1 (0 : Int32) c h
theorem hdX7_keepHold : yX7_keepHold.cls ≠ "java/lang/invoke/MethodHandle" ∧ yX7_keepHold.cls ≠ "java/lang/invoke/VarHandle" ∧ (parseMethodDescriptor yX7_keepHold.desc).map (fun d => d.parameters.length) = some 0 := by decide +kernel
theorem eX7_keepHold_0 : Dc cX7_keepHold 0 (.iconst 0) 1 1 := ⟨by decide +kernel, rfl⟩
theorem eX7_keepHold_1 : Dc cX7_keepHold 1 (.istore_n 1) 1 2 := ⟨by decide +kernel, rfl⟩
theorem eX7_keepHold_2 : Dc cX7_keepHold 2 (.iload_n 1) 1 3 := ⟨by decide +kernel, rfl⟩
theorem eX7_keepHold_3 : Dc cX7_keepHold 3 (.bipush 6) 2 5 := ⟨by decide +kernel, rfl⟩
theorem eX7_keepHold_5 : Dc cX7_keepHold 5 (.if_icmp .ge 21) 3 8 := ⟨by decide +kernel, rfl⟩
theorem eX7_keepHold_8 : Dc cX7_keepHold 8 (.aload_n 0) 1 9 := ⟨by decide +kernel, rfl⟩
theorem eX7_keepHold_9 : Dc cX7_keepHold 9 (.getfield 46) 3 12 := ⟨by decide +kernel, rfl⟩
theorem eX7_keepHold_12 : Dc cX7_keepHold 12 (.iload_n 1) 1 13 := ⟨by decide +kernel, rfl⟩
theorem eX7_keepHold_13 : Dc cX7_keepHold 13 (.aload_n 0) 1 14 := ⟨by decide +kernel, rfl⟩
theorem eX7_keepHold_14 : Dc cX7_keepHold 14 (.getfield 40) 3 17 := ⟨by decide +kernel, rfl⟩
theorem eX7_keepHold_17 : Dc cX7_keepHold 17 (.iload_n 1) 1 18 := ⟨by decide +kernel, rfl⟩
theorem eX7_keepHold_18 : Dc cX7_keepHold 18 (.iaload) 1 19 := ⟨by decide +kernel, rfl⟩
theorem eX7_keepHold_19 : Dc cX7_keepHold 19 (.iastore) 1 20 := ⟨by decide +kernel, rfl⟩
theorem eX7_keepHold_20 : Dc cX7_keepHold 20 (.iinc 1 1) 3 23 := ⟨by decide +kernel, rfl⟩
theorem eX7_keepHold_23 : Dc cX7_keepHold 23 (.goto (-21)) 3 26 := ⟨by decide +kernel, rfl⟩
theorem eX7_keepHold_26 : Dc cX7_keepHold 26 (.return_) 1 27 := ⟨by decide +kernel, rfl⟩
def fX7_keepHold_L2   : Nat → Int32 → SS → Option (SS)
  | 0, _, _ => none
  | n + 1, a1, c => if (6 : Int32) ≤ a1 then some c else ald 6 (c.2 17) a1 (fun v2 => ckb 6 a1 (fX7_keepHold_L2  n (a1 + (1 : Int32)) (sA c 21 (a1).toNatClampNeg v2)))
def fX7_keepHold (c : SS)  : Option (SS) := fX7_keepHold_L2  fu (0 : Int32) c
set_option maxRecDepth 20000 in
theorem ctX7_keepHold_L2 (l : Launch) (G : tg_G) (A : Nat → Nat)   {z : SS}  : ∀ (n : Nat) (a1 : Int32) (c : SS), fX7_keepHold_L2  n a1 c = some z → V l G (tg_Zm G (fun v w1 => v = none ∧ w1 = wM G A z) 0 0) tg_E0 (tg_R 0 0) "TramGodModel" "keepHold" cX7_keepHold 2 none 2 [(0, .ref (A 0)), (1, .int a1)] [] (wM G A c) 0 0 := by
  intro n
  induction n with
  | zero => intro a1 c h; exact absurd h (by simp [fX7_keepHold_L2])
  | succ n ih =>
    intro a1 c h
    unfold fX7_keepHold_L2 at h
    refine V_iload_n eX7_keepHold_2 1 rfl ?_
    refine V_bipush (v := (6 : Int32)) eX7_keepHold_3 rfl ?_
    refine V_icmp_ge (tgt := 26) eX7_keepHold_5 rfl (fun hb1 => ?_) (fun hb1 => ?_)
    · replace h := (if_pos hb1).symm.trans h
      obtain rfl := Option.some.inj h
      exact V_vret eX7_keepHold_26 rfl ⟨rfl, rfl⟩
    · replace h := (if_neg hb1).symm.trans h
      refine V_aload_n eX7_keepHold_8 0 rfl ?_
      refine V_get (v := .ref (A 13)) eX7_keepHold_9 inX7 0 rfl rfl 21 (Nat.le_of_ble_eq_true rfl) tw_666 rfl ?_
      refine V_iload_n eX7_keepHold_12 1 rfl ?_
      refine V_aload_n eX7_keepHold_13 0 rfl ?_
      refine V_get (v := .ref (A 11)) eX7_keepHold_14 inX7 0 rfl rfl 17 (Nat.le_of_ble_eq_true rfl) tw_662 rfl ?_
      refine V_iload_n eX7_keepHold_17 1 rfl ?_
      obtain ⟨v2, hi2, ev2, h⟩ := ald_some h
      refine V_ialdv eX7_keepHold_18 11 rfl hi2 ev2 ?_
      obtain ⟨hi3, h⟩ := ckb_some h
      refine V_iast (w' := wM G A (sA c 21 (a1).toNatClampNeg v2)) eX7_keepHold_19 13 rfl hi3 rfl ?_
      refine V_iinc (v := (a1 + (1 : Int32))) (lv' := [(1, .int (a1 + (1 : Int32))), (0, .ref (A 0))]) eX7_keepHold_20 1 rfl rfl (Nat.le_of_ble_eq_true rfl) rfl ?_
      refine V_goto (tgt := 2) eX7_keepHold_23 rfl ?_
      refine V_lv (lv' := [(0, .ref (A 0)), (1, .int (a1 + (1 : Int32)))]) [1, 0] rfl ?_
      exact ih (a1 + (1 : Int32)) (sA c 21 (a1).toNatClampNeg v2) h
set_option maxRecDepth 20000 in
theorem ctX7_keepHold (l : Launch) (G : tg_G) (A : Nat → Nat) (c : SS)  {z : SS} (h : fX7_keepHold c  = some z) : Mt l G yX7_keepHold cX7_keepHold 2 none (tg_R 0 0) [.ref (A 0)] (wM G A c) (fun v w1 => v = none ∧ w1 = wM G A z) := by
  refine Mt_of2 (own := "TramGodModel") (nm := "keepHold") rfl rfl rfl (Nat.le_of_ble_eq_true rfl) (lv := [(0, .ref (A 0))]) rfl ?_
  unfold fX7_keepHold at h
  refine V_iconst (v := (0 : Int32)) eX7_keepHold_0 rfl ?_
  refine V_istore_n (lv' := [(1, .int (0 : Int32)), (0, .ref (A 0))]) eX7_keepHold_1 (Nat.le_of_ble_eq_true rfl) rfl ?_
  refine V_lv (lv' := [(0, .ref (A 0)), (1, .int (0 : Int32))]) [1, 0] rfl ?_
  refine ctX7_keepHold_L2 l G A fu (0 : Int32) c h
theorem hdX7_bestBy : yX7_bestBy.cls ≠ "java/lang/invoke/MethodHandle" ∧ yX7_bestBy.cls ≠ "java/lang/invoke/VarHandle" ∧ (parseMethodDescriptor yX7_bestBy.desc).map (fun d => d.parameters.length) = some 2 := by decide +kernel
theorem eX7_bestBy_0 : Dc cX7_bestBy 0 (.aload_n 0) 1 1 := ⟨by decide +kernel, rfl⟩
theorem eX7_bestBy_1 : Dc cX7_bestBy 1 (.invokevirtual 170) 3 4 := ⟨by decide +kernel, rfl⟩
theorem eX7_bestBy_4 : Dc cX7_bestBy 4 (.ldc 173) 2 6 := ⟨by decide +kernel, rfl⟩
theorem eX7_bestBy_6 : Dc cX7_bestBy 6 (.istore_n 3) 1 7 := ⟨by decide +kernel, rfl⟩
theorem eX7_bestBy_7 : Dc cX7_bestBy 7 (.iconst 1) 1 8 := ⟨by decide +kernel, rfl⟩
theorem eX7_bestBy_8 : Dc cX7_bestBy 8 (.istore 4) 2 10 := ⟨by decide +kernel, rfl⟩
theorem eX7_bestBy_10 : Dc cX7_bestBy 10 (.iload 4) 2 12 := ⟨by decide +kernel, rfl⟩
theorem eX7_bestBy_12 : Dc cX7_bestBy 12 (.ifCond .eq 37) 3 15 := ⟨by decide +kernel, rfl⟩
theorem eX7_bestBy_15 : Dc cX7_bestBy 15 (.aload_n 0) 1 16 := ⟨by decide +kernel, rfl⟩
theorem eX7_bestBy_16 : Dc cX7_bestBy 16 (.aload_n 0) 1 17 := ⟨by decide +kernel, rfl⟩
theorem eX7_bestBy_17 : Dc cX7_bestBy 17 (.invokevirtual 157) 3 20 := ⟨by decide +kernel, rfl⟩
theorem eX7_bestBy_20 : Dc cX7_bestBy 20 (.iload_n 2) 1 21 := ⟨by decide +kernel, rfl⟩
theorem eX7_bestBy_21 : Dc cX7_bestBy 21 (.invokevirtual 161) 3 24 := ⟨by decide +kernel, rfl⟩
theorem eX7_bestBy_24 : Dc cX7_bestBy 24 (.istore 5) 2 26 := ⟨by decide +kernel, rfl⟩
theorem eX7_bestBy_26 : Dc cX7_bestBy 26 (.iload 5) 2 28 := ⟨by decide +kernel, rfl⟩
theorem eX7_bestBy_28 : Dc cX7_bestBy 28 (.iload_n 3) 1 29 := ⟨by decide +kernel, rfl⟩
theorem eX7_bestBy_29 : Dc cX7_bestBy 29 (.if_icmp .le 10) 3 32 := ⟨by decide +kernel, rfl⟩
theorem eX7_bestBy_32 : Dc cX7_bestBy 32 (.iload 5) 2 34 := ⟨by decide +kernel, rfl⟩
theorem eX7_bestBy_34 : Dc cX7_bestBy 34 (.istore_n 3) 1 35 := ⟨by decide +kernel, rfl⟩
theorem eX7_bestBy_35 : Dc cX7_bestBy 35 (.aload_n 0) 1 36 := ⟨by decide +kernel, rfl⟩
theorem eX7_bestBy_36 : Dc cX7_bestBy 36 (.invokevirtual 174) 3 39 := ⟨by decide +kernel, rfl⟩
theorem eX7_bestBy_39 : Dc cX7_bestBy 39 (.aload_n 0) 1 40 := ⟨by decide +kernel, rfl⟩
theorem eX7_bestBy_40 : Dc cX7_bestBy 40 (.iload_n 1) 1 41 := ⟨by decide +kernel, rfl⟩
theorem eX7_bestBy_41 : Dc cX7_bestBy 41 (.invokevirtual 177) 3 44 := ⟨by decide +kernel, rfl⟩
theorem eX7_bestBy_44 : Dc cX7_bestBy 44 (.istore 4) 2 46 := ⟨by decide +kernel, rfl⟩
theorem eX7_bestBy_46 : Dc cX7_bestBy 46 (.goto (-36)) 3 49 := ⟨by decide +kernel, rfl⟩
theorem eX7_bestBy_49 : Dc cX7_bestBy 49 (.iload_n 3) 1 50 := ⟨by decide +kernel, rfl⟩
theorem eX7_bestBy_50 : Dc cX7_bestBy 50 (.ireturn) 1 51 := ⟨by decide +kernel, rfl⟩
def fX7_bestBy_L10  (a1 : Int32) (a2 : Int32) : Nat → Int32 → Int32 → SS → Option (Int32 × SS)
  | 0, _, _, _ => none
  | n + 1, a3, a4, c => if a4 = (0 : Int32) then some (a3, c) else Option.bind (fX7_ridersNow c) (fun q3 => Option.bind (fX7_goodOf q3.2 q3.1 a2) (fun q4 => jn (fun (x5 : Int32) (c6 : SS) => Option.bind (fX7_nextHold c6 a1) (fun q7 => fX7_bestBy_L10 a1 a2 n x5 q7.1 q7.2)) (fun j39 => if q4 ≤ a3 then j39 a3 q3.2 else Option.bind (fX7_keepHold q3.2) (fun q9 => j39 q4 q9))))
def fX7_bestBy (c : SS) (p1 : Int32) (p2 : Int32) : Option (Int32 × SS) := Option.bind (fX7_noHold c) (fun q1 => fX7_bestBy_L10 p1 p2 fu (-1000000 : Int32) (1 : Int32) q1)
set_option maxRecDepth 20000 in
theorem ctX7_bestBy_L10 (l : Launch) (G : tg_G) (A : Nat → Nat)  (a1 : Int32) (a2 : Int32) {z : Int32 × SS}  : ∀ (n : Nat) (a3 : Int32) (a4 : Int32) (c : SS), fX7_bestBy_L10 a1 a2 n a3 a4 c = some z → V l G (tg_Zm G (fun v w1 => v = some (.int z.1) ∧ w1 = wM G A z.2) 0 0) tg_E0 (tg_R 3 71) "TramGodModel" "bestBy" cX7_bestBy 6 (some .int) 10 [(0, .ref (A 0)), (1, .int a1), (2, .int a2), (3, .int a3), (4, .int a4)] [] (wM G A c) 0 0 := by
  intro n
  induction n with
  | zero => intro a3 a4 c h; exact absurd h (by simp [fX7_bestBy_L10])
  | succ n ih =>
    intro a3 a4 c h
    unfold fX7_bestBy_L10 at h
    refine V_iload eX7_bestBy_10 4 rfl ?_
    refine V_if_eq (tgt := 49) eX7_bestBy_12 rfl (fun hb2 => ?_) (fun hb2 => ?_)
    · replace h := (if_pos hb2).symm.trans h
      refine V_iload_n eX7_bestBy_49 3 rfl ?_
      obtain rfl := Option.some.inj h
      exact V_ret eX7_bestBy_50 rfl ⟨rfl, rfl⟩
    · replace h := (if_neg hb2).symm.trans h
      refine V_aload_n eX7_bestBy_15 0 rfl ?_
      refine V_aload_n eX7_bestBy_16 0 rfl ?_
      obtain ⟨q3, hc3, h⟩ := Option.bind_eq_some_iff.mp h
      refine V_callVi (rest := [.ref (A 0)]) eX7_bestBy_17 (ctX7_ridersNow l G A c hc3) tc_830 tw_827 tw_8 tw_829 ts_26 0 rfl rfl hdX7_ridersNow rfl ⟨Nat.le_of_ble_eq_true rfl, Nat.le_of_ble_eq_true rfl⟩ rfl (Nat.le_of_ble_eq_true rfl) ⟨Nat.zero_le _, Nat.zero_le _⟩ ?_
      refine V_iload_n eX7_bestBy_20 2 rfl ?_
      obtain ⟨q4, hc4, h⟩ := Option.bind_eq_some_iff.mp h
      refine V_callVi (rest := []) eX7_bestBy_21 (ctX7_goodOf l G A q3.2 q3.1 a2 hc4) tc_846 tw_843 tw_8 tw_845 ts_29 0 rfl rfl hdX7_goodOf rfl ⟨Nat.le_of_ble_eq_true rfl, Nat.le_of_ble_eq_true rfl⟩ rfl (Nat.le_of_ble_eq_true rfl) ⟨Nat.zero_le _, Nat.zero_le _⟩ ?_
      refine V_istore (lv' := [(5, .int q4), (0, .ref (A 0)), (1, .int a1), (2, .int a2), (3, .int a3), (4, .int a4)]) eX7_bestBy_24 (Nat.le_of_ble_eq_true rfl) rfl ?_
      refine V_iload eX7_bestBy_26 0 rfl ?_
      refine V_iload_n eX7_bestBy_28 4 rfl ?_
      refine jn_elim h (fun j => ∀ (x5 : Int32) (c6 : SS), j x5 c6 = some z → V l G (tg_Zm G (fun v w1 => v = some (.int z.1) ∧ w1 = wM G A z.2) 0 0) tg_E0 (tg_R 3 71) "TramGodModel" "bestBy" cX7_bestBy 6 (some .int) 39 [(0, .ref (A 0)), (1, .int a1), (2, .int a2), (3, .int x5)] [] (wM G A c6) 0 0) ?_ (fun j39 hj39 h => ?_)
      · intro x5 c6 h
        refine V_aload_n eX7_bestBy_39 0 rfl ?_
        refine V_iload_n eX7_bestBy_40 1 rfl ?_
        obtain ⟨q7, hc7, h⟩ := Option.bind_eq_some_iff.mp h
        refine V_callVi (rest := []) eX7_bestBy_41 (ctX7_nextHold l G A c6 a1 hc7) tc_879 tw_876 tw_8 tw_878 ts_34 0 rfl rfl hdX7_nextHold rfl ⟨Nat.le_of_ble_eq_true rfl, Nat.le_of_ble_eq_true rfl⟩ rfl (Nat.le_of_ble_eq_true rfl) ⟨Nat.zero_le _, Nat.zero_le _⟩ ?_
        refine V_istore (lv' := [(4, .int q7.1), (0, .ref (A 0)), (1, .int a1), (2, .int a2), (3, .int x5)]) eX7_bestBy_44 (Nat.le_of_ble_eq_true rfl) rfl ?_
        refine V_goto (tgt := 10) eX7_bestBy_46 rfl ?_
        refine V_lv (lv' := [(0, .ref (A 0)), (1, .int a1), (2, .int a2), (3, .int x5), (4, .int q7.1)]) [1, 2, 3, 4, 0] rfl ?_
        exact ih x5 q7.1 q7.2 h
      refine V_icmp_le (tgt := 39) eX7_bestBy_29 rfl (fun hb8 => ?_) (fun hb8 => ?_)
      · replace h := (if_pos hb8).symm.trans h
        refine V_lv (lv' := [(0, .ref (A 0)), (1, .int a1), (2, .int a2), (3, .int a3)]) [1, 2, 3, 4] rfl ?_
        exact hj39 a3 q3.2 h
      · replace h := (if_neg hb8).symm.trans h
        refine V_iload eX7_bestBy_32 0 rfl ?_
        refine V_istore_n (lv' := [(3, .int q4), (5, .int q4), (0, .ref (A 0)), (1, .int a1), (2, .int a2), (4, .int a4)]) eX7_bestBy_34 (Nat.le_of_ble_eq_true rfl) rfl ?_
        refine V_aload_n eX7_bestBy_35 2 rfl ?_
        obtain ⟨q9, hc9, h⟩ := Option.bind_eq_some_iff.mp h
        refine V_callVv (rest := []) eX7_bestBy_36 (ctX7_keepHold l G A q3.2 hc9) tc_875 tw_872 tw_8 tw_874 ts_33 0 rfl rfl hdX7_keepHold rfl ⟨Nat.le_of_ble_eq_true rfl, Nat.le_of_ble_eq_true rfl⟩ rfl (Nat.le_of_ble_eq_true rfl) ⟨Nat.zero_le _, Nat.zero_le _⟩ ?_
        refine V_lv (lv' := [(0, .ref (A 0)), (1, .int a1), (2, .int a2), (3, .int q4)]) [2, 3, 4, 0] rfl ?_
        exact hj39 q4 q9 h
set_option maxRecDepth 20000 in
theorem ctX7_bestBy (l : Launch) (G : tg_G) (A : Nat → Nat) (c : SS) (p1 : Int32) (p2 : Int32) {z : Int32 × SS} (h : fX7_bestBy c p1 p2 = some z) : Mt l G yX7_bestBy cX7_bestBy 6 (some .int) (tg_R 3 71) [.ref (A 0), .int p1, .int p2] (wM G A c) (fun v w1 => v = some (.int z.1) ∧ w1 = wM G A z.2) := by
  refine Mt_of2 (own := "TramGodModel") (nm := "bestBy") rfl rfl rfl (Nat.le_of_ble_eq_true rfl) (lv := [(0, .ref (A 0)), (1, .int p1), (2, .int p2)]) rfl ?_
  unfold fX7_bestBy at h
  refine V_aload_n eX7_bestBy_0 0 rfl ?_
  obtain ⟨q1, hc1, h⟩ := Option.bind_eq_some_iff.mp h
  refine V_callVv (rest := []) eX7_bestBy_1 (ctX7_noHold l G A c hc1) tc_870 tw_867 tw_8 tw_869 ts_32 0 rfl rfl hdX7_noHold rfl ⟨Nat.le_of_ble_eq_true rfl, Nat.le_of_ble_eq_true rfl⟩ rfl (Nat.le_of_ble_eq_true rfl) ⟨Nat.zero_le _, Nat.zero_le _⟩ ?_
  refine V_ldc eX7_bestBy_4 tw_871 ?_
  refine V_istore_n (lv' := [(3, .int (-1000000 : Int32)), (0, .ref (A 0)), (1, .int p1), (2, .int p2)]) eX7_bestBy_6 (Nat.le_of_ble_eq_true rfl) rfl ?_
  refine V_iconst (v := (1 : Int32)) eX7_bestBy_7 rfl ?_
  refine V_istore (lv' := [(4, .int (1 : Int32)), (3, .int (-1000000 : Int32)), (0, .ref (A 0)), (1, .int p1), (2, .int p2)]) eX7_bestBy_8 (Nat.le_of_ble_eq_true rfl) rfl ?_
  refine V_lv (lv' := [(0, .ref (A 0)), (1, .int p1), (2, .int p2), (3, .int (-1000000 : Int32)), (4, .int (1 : Int32))]) [2, 3, 4, 1, 0] rfl ?_
  refine ctX7_bestBy_L10 l G A p1 p2 fu (-1000000 : Int32) (1 : Int32) q1 h
