theorem hdX6_within : yX6_within.cls ≠ "java/lang/invoke/MethodHandle" ∧ yX6_within.cls ≠ "java/lang/invoke/VarHandle" ∧ (parseMethodDescriptor yX6_within.desc).map (fun d => d.parameters.length) = some 3 := by decide +kernel
theorem eX6_within_0 : Dc cX6_within 0 (.iload_n 0) 1 1 := ⟨by decide +kernel, rfl⟩
theorem eX6_within_1 : Dc cX6_within 1 (.iload_n 1) 1 2 := ⟨by decide +kernel, rfl⟩
theorem eX6_within_2 : Dc cX6_within 2 (.if_icmp .lt 12) 3 5 := ⟨by decide +kernel, rfl⟩
theorem eX6_within_5 : Dc cX6_within 5 (.iload_n 0) 1 6 := ⟨by decide +kernel, rfl⟩
theorem eX6_within_6 : Dc cX6_within 6 (.iload_n 2) 1 7 := ⟨by decide +kernel, rfl⟩
theorem eX6_within_7 : Dc cX6_within 7 (.if_icmp .gt 7) 3 10 := ⟨by decide +kernel, rfl⟩
theorem eX6_within_10 : Dc cX6_within 10 (.iconst 1) 1 11 := ⟨by decide +kernel, rfl⟩
theorem eX6_within_11 : Dc cX6_within 11 (.goto 4) 3 14 := ⟨by decide +kernel, rfl⟩
theorem eX6_within_14 : Dc cX6_within 14 (.iconst 0) 1 15 := ⟨by decide +kernel, rfl⟩
theorem eX6_within_15 : Dc cX6_within 15 (.ireturn) 1 16 := ⟨by decide +kernel, rfl⟩
def fX6_within (p0 : Int32) (p1 : Int32) (p2 : Int32) : Int32 := if p0 < p1 then (0 : Int32) else if p2 < p0 then (0 : Int32) else (1 : Int32)
set_option maxRecDepth 20000 in
theorem ctX6_within (l : Launch) (G : tg_G) (w : va_W) (p0 : Int32) (p1 : Int32) (p2 : Int32) {z : Int32} (h : fX6_within p0 p1 p2 = z) : Mt l G yX6_within cX6_within 3 (some .boolean) (tg_R 0 0) [.int p0, .int p1, .int p2] (w) (fun v w1 => v = some (.int z) ∧ w1 = w) := by
  refine Mt_of2 (own := "TramGod") (nm := "within") rfl rfl rfl (Nat.le_of_ble_eq_true rfl) (lv := [(0, .int p0), (1, .int p1), (2, .int p2)]) rfl ?_
  unfold fX6_within at h
  refine V_iload_n eX6_within_0 0 rfl ?_
  refine V_iload_n eX6_within_1 1 rfl ?_
  refine V_icmp_lt (tgt := 14) eX6_within_2 rfl (fun hb1 => ?_) (fun hb1 => ?_)
  · replace h := (if_pos hb1).symm.trans h
    refine V_iconst (v := (0 : Int32)) eX6_within_14 rfl ?_
    subst h
    exact V_zret eX6_within_15 rfl rfl ⟨rfl, rfl⟩
  · replace h := (if_neg hb1).symm.trans h
    refine V_iload_n eX6_within_5 0 rfl ?_
    refine V_iload_n eX6_within_6 2 rfl ?_
    refine V_icmp_gt (tgt := 14) eX6_within_7 rfl (fun hb2 => ?_) (fun hb2 => ?_)
    · replace h := (if_pos hb2).symm.trans h
      refine V_iconst (v := (0 : Int32)) eX6_within_14 rfl ?_
      subst h
      exact V_zret eX6_within_15 rfl rfl ⟨rfl, rfl⟩
    · replace h := (if_neg hb2).symm.trans h
      refine V_iconst (v := (1 : Int32)) eX6_within_10 rfl ?_
      refine V_goto (tgt := 15) eX6_within_11 rfl ?_
      subst h
      exact V_zret eX6_within_15 rfl rfl ⟨rfl, rfl⟩
theorem bzX6_within (p0 : Int32) (p1 : Int32) (p2 : Int32) : narrow .boolean (.int (fX6_within p0 p1 p2)) = .int (fX6_within p0 p1 p2) := by
  unfold fX6_within
  repeat' split
  all_goals first | rfl
theorem hdX1_put : yX1_put.cls ≠ "java/lang/invoke/MethodHandle" ∧ yX1_put.cls ≠ "java/lang/invoke/VarHandle" ∧ (parseMethodDescriptor yX1_put.desc).map (fun d => d.parameters.length) = some 1 := by decide +kernel
theorem eX1_put_0 : Dc cX1_put 0 (.aload_n 0) 1 1 := ⟨by decide +kernel, rfl⟩
theorem eX1_put_1 : Dc cX1_put 1 (.getfield 15) 3 4 := ⟨by decide +kernel, rfl⟩
theorem eX1_put_4 : Dc cX1_put 4 (.ifCond .lt 12) 3 7 := ⟨by decide +kernel, rfl⟩
theorem eX1_put_7 : Dc cX1_put 7 (.aload_n 0) 1 8 := ⟨by decide +kernel, rfl⟩
theorem eX1_put_8 : Dc cX1_put 8 (.getfield 15) 3 11 := ⟨by decide +kernel, rfl⟩
theorem eX1_put_11 : Dc cX1_put 11 (.bipush 20) 2 13 := ⟨by decide +kernel, rfl⟩
theorem eX1_put_13 : Dc cX1_put 13 (.if_icmp .lt 5) 3 16 := ⟨by decide +kernel, rfl⟩
theorem eX1_put_16 : Dc cX1_put 16 (.iconst 0) 1 17 := ⟨by decide +kernel, rfl⟩
theorem eX1_put_17 : Dc cX1_put 17 (.ireturn) 1 18 := ⟨by decide +kernel, rfl⟩
theorem eX1_put_18 : Dc cX1_put 18 (.aload_n 0) 1 19 := ⟨by decide +kernel, rfl⟩
theorem eX1_put_19 : Dc cX1_put 19 (.getfield 9) 3 22 := ⟨by decide +kernel, rfl⟩
theorem eX1_put_22 : Dc cX1_put 22 (.aload_n 0) 1 23 := ⟨by decide +kernel, rfl⟩
theorem eX1_put_23 : Dc cX1_put 23 (.getfield 15) 3 26 := ⟨by decide +kernel, rfl⟩
theorem eX1_put_26 : Dc cX1_put 26 (.iload_n 1) 1 27 := ⟨by decide +kernel, rfl⟩
theorem eX1_put_27 : Dc cX1_put 27 (.iastore) 1 28 := ⟨by decide +kernel, rfl⟩
theorem eX1_put_28 : Dc cX1_put 28 (.aload_n 0) 1 29 := ⟨by decide +kernel, rfl⟩
theorem eX1_put_29 : Dc cX1_put 29 (.dup) 1 30 := ⟨by decide +kernel, rfl⟩
theorem eX1_put_30 : Dc cX1_put 30 (.getfield 15) 3 33 := ⟨by decide +kernel, rfl⟩
theorem eX1_put_33 : Dc cX1_put 33 (.iconst 1) 1 34 := ⟨by decide +kernel, rfl⟩
theorem eX1_put_34 : Dc cX1_put 34 (.iadd) 1 35 := ⟨by decide +kernel, rfl⟩
theorem eX1_put_35 : Dc cX1_put 35 (.putfield 15) 3 38 := ⟨by decide +kernel, rfl⟩
theorem eX1_put_38 : Dc cX1_put 38 (.iconst 1) 1 39 := ⟨by decide +kernel, rfl⟩
theorem eX1_put_39 : Dc cX1_put 39 (.ireturn) 1 40 := ⟨by decide +kernel, rfl⟩
def fX1_put (c : SS) (p1 : Int32) : Option (Int32 × SS) := if (c.1 0) < (0 : Int32) then some ((0 : Int32), c) else if (c.1 0) < (20 : Int32) then ckb 20 (c.1 0) (some ((1 : Int32), (sF (sA c 0 ((c.1 0)).toNatClampNeg p1) 0 ((c.1 0) + (1 : Int32))))) else some ((0 : Int32), c)
set_option maxRecDepth 20000 in
theorem ctX1_put (l : Launch) (G : tg_G) (A : Nat → Nat) (c : SS) (p1 : Int32) {z : Int32 × SS} (h : fX1_put c p1 = some z) : Mt l G yX1_put cX1_put 2 (some .boolean) (tg_R 0 0) [.ref (A 1), .int p1] (wC G A c) (fun v w1 => v = some (.int z.1) ∧ w1 = wC G A z.2) := by
  refine Mt_of2 (own := "TramGod$Pad") (nm := "put") rfl rfl rfl (Nat.le_of_ble_eq_true rfl) (lv := [(0, .ref (A 1)), (1, .int p1)]) rfl ?_
  unfold fX1_put at h
  refine V_aload_n eX1_put_0 0 rfl ?_
  refine V_get (v := .int (c.1 0)) eX1_put_1 inX1 1 rfl rfl 1 (Nat.le_of_ble_eq_true rfl) tw_27 rfl ?_
  refine V_if_lt (tgt := 16) eX1_put_4 rfl (fun hb1 => ?_) (fun hb1 => ?_)
  · replace h := (if_pos hb1).symm.trans h
    refine V_iconst (v := (0 : Int32)) eX1_put_16 rfl ?_
    obtain rfl := Option.some.inj h
    exact V_zret eX1_put_17 rfl rfl ⟨rfl, rfl⟩
  · replace h := (if_neg hb1).symm.trans h
    refine V_aload_n eX1_put_7 0 rfl ?_
    refine V_get (v := .int (c.1 0)) eX1_put_8 inX1 1 rfl rfl 1 (Nat.le_of_ble_eq_true rfl) tw_27 rfl ?_
    refine V_bipush (v := (20 : Int32)) eX1_put_11 rfl ?_
    refine V_icmp_lt (tgt := 18) eX1_put_13 rfl (fun hb2 => ?_) (fun hb2 => ?_)
    · replace h := (if_pos hb2).symm.trans h
      refine V_aload_n eX1_put_18 0 rfl ?_
      refine V_get (v := .ref (A 2)) eX1_put_19 inX1 1 rfl rfl 0 (Nat.le_of_ble_eq_true rfl) tw_26 rfl ?_
      refine V_aload_n eX1_put_22 0 rfl ?_
      refine V_get (v := .int (c.1 0)) eX1_put_23 inX1 1 rfl rfl 1 (Nat.le_of_ble_eq_true rfl) tw_27 rfl ?_
      refine V_iload_n eX1_put_26 1 rfl ?_
      obtain ⟨hi3, h⟩ := ckb_some h
      refine V_iast (w' := wC G A (sA c 0 ((c.1 0)).toNatClampNeg p1)) eX1_put_27 2 rfl hi3 rfl ?_
      refine V_aload_n eX1_put_28 0 rfl ?_
      refine V_dup eX1_put_29 rfl ?_
      refine V_get (v := .int (c.1 0)) eX1_put_30 inX1 1 rfl rfl 1 (Nat.le_of_ble_eq_true rfl) tw_27 rfl ?_
      refine V_iconst (v := (1 : Int32)) eX1_put_33 rfl ?_
      refine V_iadd eX1_put_34 ?_
      refine V_put (w' := wC G A (sF (sA c 0 ((c.1 0)).toNatClampNeg p1) 0 ((c.1 0) + (1 : Int32)))) eX1_put_35 inX1 tyX1 tyX1_ok nmX1 1 rfl rfl 1 (Nat.le_of_ble_eq_true rfl) tw_27 rfl rfl rfl rfl (Nat.le_of_ble_eq_true rfl) rfl ?_
      refine V_iconst (v := (1 : Int32)) eX1_put_38 rfl ?_
      obtain rfl := Option.some.inj h
      exact V_zret eX1_put_39 rfl rfl ⟨rfl, rfl⟩
    · replace h := (if_neg hb2).symm.trans h
      refine V_iconst (v := (0 : Int32)) eX1_put_16 rfl ?_
      obtain rfl := Option.some.inj h
      exact V_zret eX1_put_17 rfl rfl ⟨rfl, rfl⟩
theorem hdX6_say : yX6_say.cls ≠ "java/lang/invoke/MethodHandle" ∧ yX6_say.cls ≠ "java/lang/invoke/VarHandle" ∧ (parseMethodDescriptor yX6_say.desc).map (fun d => d.parameters.length) = some 1 := by decide +kernel
theorem eX6_say_0 : Dc cX6_say 0 (.iload_n 1) 1 1 := ⟨by decide +kernel, rfl⟩
theorem eX6_say_1 : Dc cX6_say 1 (.bipush 33) 2 3 := ⟨by decide +kernel, rfl⟩
theorem eX6_say_3 : Dc cX6_say 3 (.bipush 126) 2 5 := ⟨by decide +kernel, rfl⟩
theorem eX6_say_5 : Dc cX6_say 5 (.invokestatic 68) 3 8 := ⟨by decide +kernel, rfl⟩
theorem eX6_say_8 : Dc cX6_say 8 (.ifCond .ne 6) 3 11 := ⟨by decide +kernel, rfl⟩
theorem eX6_say_11 : Dc cX6_say 11 (.bipush (-2)) 2 13 := ⟨by decide +kernel, rfl⟩
theorem eX6_say_13 : Dc cX6_say 13 (.ireturn) 1 14 := ⟨by decide +kernel, rfl⟩
theorem eX6_say_14 : Dc cX6_say 14 (.aload_n 0) 1 15 := ⟨by decide +kernel, rfl⟩
theorem eX6_say_15 : Dc cX6_say 15 (.getfield 10) 3 18 := ⟨by decide +kernel, rfl⟩
theorem eX6_say_18 : Dc cX6_say 18 (.iload_n 1) 1 19 := ⟨by decide +kernel, rfl⟩
theorem eX6_say_19 : Dc cX6_say 19 (.invokevirtual 72) 3 22 := ⟨by decide +kernel, rfl⟩
theorem eX6_say_22 : Dc cX6_say 22 (.ifCond .eq 13) 3 25 := ⟨by decide +kernel, rfl⟩
theorem eX6_say_25 : Dc cX6_say 25 (.aload_n 0) 1 26 := ⟨by decide +kernel, rfl⟩
theorem eX6_say_26 : Dc cX6_say 26 (.getfield 10) 3 29 := ⟨by decide +kernel, rfl⟩
theorem eX6_say_29 : Dc cX6_say 29 (.getfield 76) 3 32 := ⟨by decide +kernel, rfl⟩
theorem eX6_say_32 : Dc cX6_say 32 (.goto 5) 3 35 := ⟨by decide +kernel, rfl⟩
theorem eX6_say_35 : Dc cX6_say 35 (.bipush (-4)) 2 37 := ⟨by decide +kernel, rfl⟩
theorem eX6_say_37 : Dc cX6_say 37 (.ireturn) 1 38 := ⟨by decide +kernel, rfl⟩
def fX6_say (c : SS) (p1 : Int32) : Option (Int32 × SS) := if (fX6_within p1 (33 : Int32) (126 : Int32)) = (0 : Int32) then some ((-2 : Int32), c) else Option.bind (fX1_put c p1) (fun q2 => if q2.1 = (0 : Int32) then some ((-4 : Int32), q2.2) else some ((q2.2.1 0), q2.2))
set_option maxRecDepth 20000 in
theorem ctX6_say (l : Launch) (G : tg_G) (A : Nat → Nat) (c : SS) (p1 : Int32) {z : Int32 × SS} (h : fX6_say c p1 = some z) : Mt l G yX6_say cX6_say 2 (some .int) (tg_R 1 22) [.ref (A 0), .int p1] (wC G A c) (fun v w1 => v = some (.int z.1) ∧ w1 = wC G A z.2) := by
  refine Mt_of2 (own := "TramGod") (nm := "say") rfl rfl rfl (Nat.le_of_ble_eq_true rfl) (lv := [(0, .ref (A 0)), (1, .int p1)]) rfl ?_
  unfold fX6_say at h
  refine V_iload_n eX6_say_0 1 rfl ?_
  refine V_bipush (v := (33 : Int32)) eX6_say_1 rfl ?_
  refine V_bipush (v := (126 : Int32)) eX6_say_3 rfl ?_
  refine V_callSi (rest := []) eX6_say_5 (ctX6_within l G _ p1 (33 : Int32) (126 : Int32) rfl) tc_241 tw_239 tw_1 tw_240 hdX6_within rfl ⟨Nat.le_of_ble_eq_true rfl, Nat.le_of_ble_eq_true rfl⟩ rfl (Nat.le_of_ble_eq_true rfl) ⟨Nat.zero_le _, Nat.zero_le _⟩ ?_
  refine V_if_ne (tgt := 14) eX6_say_8 rfl (fun hb1 => ?_) (fun hb1 => ?_)
  · replace h := (if_neg hb1).symm.trans h
    refine V_aload_n eX6_say_14 0 rfl ?_
    refine V_get (v := .ref (A 1)) eX6_say_15 inX6 0 rfl rfl 0 (Nat.le_of_ble_eq_true rfl) tw_207 rfl ?_
    refine V_iload_n eX6_say_18 1 rfl ?_
    obtain ⟨q2, hc2, h⟩ := Option.bind_eq_some_iff.mp h
    refine V_callVi (rest := []) eX6_say_19 (ctX1_put l G A c p1 hc2) tc_245 tw_242 tw_2 tw_243 tw_244 1 rfl rfl hdX1_put rfl ⟨Nat.le_of_ble_eq_true rfl, Nat.le_of_ble_eq_true rfl⟩ rfl (Nat.le_of_ble_eq_true rfl) ⟨Nat.zero_le _, Nat.zero_le _⟩ ?_
    refine V_if_eq (tgt := 35) eX6_say_22 rfl (fun hb3 => ?_) (fun hb3 => ?_)
    · replace h := (if_pos hb3).symm.trans h
      refine V_bipush (v := (-4 : Int32)) eX6_say_35 rfl ?_
      obtain rfl := Option.some.inj h
      exact V_ret eX6_say_37 rfl ⟨rfl, rfl⟩
    · replace h := (if_neg hb3).symm.trans h
      refine V_aload_n eX6_say_25 0 rfl ?_
      refine V_get (v := .ref (A 1)) eX6_say_26 inX6 0 rfl rfl 0 (Nat.le_of_ble_eq_true rfl) tw_207 rfl ?_
      refine V_get (v := .int (q2.2.1 0)) eX6_say_29 inX1 1 rfl rfl 1 (Nat.le_of_ble_eq_true rfl) tw_28 rfl ?_
      refine V_goto (tgt := 37) eX6_say_32 rfl ?_
      obtain rfl := Option.some.inj h
      exact V_ret eX6_say_37 rfl ⟨rfl, rfl⟩
  · replace h := (if_pos hb1).symm.trans h
    refine V_bipush (v := (-2 : Int32)) eX6_say_11 rfl ?_
    obtain rfl := Option.some.inj h
    exact V_ret eX6_say_13 rfl ⟨rfl, rfl⟩
theorem hdX6_wipe : yX6_wipe.cls ≠ "java/lang/invoke/MethodHandle" ∧ yX6_wipe.cls ≠ "java/lang/invoke/VarHandle" ∧ (parseMethodDescriptor yX6_wipe.desc).map (fun d => d.parameters.length) = some 0 := by decide +kernel
theorem eX6_wipe_0 : Dc cX6_wipe 0 (.aload_n 0) 1 1 := ⟨by decide +kernel, rfl⟩
theorem eX6_wipe_1 : Dc cX6_wipe 1 (.getfield 10) 3 4 := ⟨by decide +kernel, rfl⟩
theorem eX6_wipe_4 : Dc cX6_wipe 4 (.getfield 76) 3 7 := ⟨by decide +kernel, rfl⟩
theorem eX6_wipe_7 : Dc cX6_wipe 7 (.istore_n 1) 1 8 := ⟨by decide +kernel, rfl⟩
theorem eX6_wipe_8 : Dc cX6_wipe 8 (.aload_n 0) 1 9 := ⟨by decide +kernel, rfl⟩
theorem eX6_wipe_9 : Dc cX6_wipe 9 (.getfield 10) 3 12 := ⟨by decide +kernel, rfl⟩
theorem eX6_wipe_12 : Dc cX6_wipe 12 (.iconst 0) 1 13 := ⟨by decide +kernel, rfl⟩
theorem eX6_wipe_13 : Dc cX6_wipe 13 (.putfield 76) 3 16 := ⟨by decide +kernel, rfl⟩
theorem eX6_wipe_16 : Dc cX6_wipe 16 (.iload_n 1) 1 17 := ⟨by decide +kernel, rfl⟩
theorem eX6_wipe_17 : Dc cX6_wipe 17 (.ireturn) 1 18 := ⟨by decide +kernel, rfl⟩
def fX6_wipe (c : SS)  : Int32 × SS := ((c.1 0), (sF c 0 (0 : Int32)))
set_option maxRecDepth 20000 in
theorem ctX6_wipe (l : Launch) (G : tg_G) (A : Nat → Nat) (c : SS)  {z : Int32 × SS} (h : fX6_wipe c  = z) : Mt l G yX6_wipe cX6_wipe 2 (some .int) (tg_R 0 0) [.ref (A 0)] (wC G A c) (fun v w1 => v = some (.int z.1) ∧ w1 = wC G A z.2) := by
  refine Mt_of2 (own := "TramGod") (nm := "wipe") rfl rfl rfl (Nat.le_of_ble_eq_true rfl) (lv := [(0, .ref (A 0))]) rfl ?_
  unfold fX6_wipe at h
  refine V_aload_n eX6_wipe_0 0 rfl ?_
  refine V_get (v := .ref (A 1)) eX6_wipe_1 inX6 0 rfl rfl 0 (Nat.le_of_ble_eq_true rfl) tw_207 rfl ?_
  refine V_get (v := .int (c.1 0)) eX6_wipe_4 inX1 1 rfl rfl 1 (Nat.le_of_ble_eq_true rfl) tw_28 rfl ?_
  refine V_istore_n (lv' := [(1, .int (c.1 0)), (0, .ref (A 0))]) eX6_wipe_7 (Nat.le_of_ble_eq_true rfl) rfl ?_
  refine V_aload_n eX6_wipe_8 1 rfl ?_
  refine V_get (v := .ref (A 1)) eX6_wipe_9 inX6 0 rfl rfl 0 (Nat.le_of_ble_eq_true rfl) tw_207 rfl ?_
  refine V_iconst (v := (0 : Int32)) eX6_wipe_12 rfl ?_
  refine V_put (w' := wC G A (sF c 0 (0 : Int32))) eX6_wipe_13 inX1 tyX1 tyX1_ok nmX1 1 rfl rfl 1 (Nat.le_of_ble_eq_true rfl) tw_28 rfl rfl rfl rfl (Nat.le_of_ble_eq_true rfl) rfl ?_
  refine V_iload_n eX6_wipe_16 0 rfl ?_
  subst h
  exact V_ret eX6_wipe_17 rfl ⟨rfl, rfl⟩
theorem hdX1_digit : yX1_digit.cls ≠ "java/lang/invoke/MethodHandle" ∧ yX1_digit.cls ≠ "java/lang/invoke/VarHandle" ∧ (parseMethodDescriptor yX1_digit.desc).map (fun d => d.parameters.length) = some 1 := by decide +kernel
theorem eX1_digit_0 : Dc cX1_digit 0 (.iload_n 1) 1 1 := ⟨by decide +kernel, rfl⟩
theorem eX1_digit_1 : Dc cX1_digit 1 (.ifCond .lt 23) 3 4 := ⟨by decide +kernel, rfl⟩
theorem eX1_digit_4 : Dc cX1_digit 4 (.iload_n 1) 1 5 := ⟨by decide +kernel, rfl⟩
theorem eX1_digit_5 : Dc cX1_digit 5 (.aload_n 0) 1 6 := ⟨by decide +kernel, rfl⟩
theorem eX1_digit_6 : Dc cX1_digit 6 (.getfield 15) 3 9 := ⟨by decide +kernel, rfl⟩
theorem eX1_digit_9 : Dc cX1_digit 9 (.if_icmp .ge 15) 3 12 := ⟨by decide +kernel, rfl⟩
theorem eX1_digit_12 : Dc cX1_digit 12 (.aload_n 0) 1 13 := ⟨by decide +kernel, rfl⟩
theorem eX1_digit_13 : Dc cX1_digit 13 (.getfield 9) 3 16 := ⟨by decide +kernel, rfl⟩
theorem eX1_digit_16 : Dc cX1_digit 16 (.iload_n 1) 1 17 := ⟨by decide +kernel, rfl⟩
theorem eX1_digit_17 : Dc cX1_digit 17 (.iaload) 1 18 := ⟨by decide +kernel, rfl⟩
theorem eX1_digit_18 : Dc cX1_digit 18 (.bipush 48) 2 20 := ⟨by decide +kernel, rfl⟩
theorem eX1_digit_20 : Dc cX1_digit 20 (.isub) 1 21 := ⟨by decide +kernel, rfl⟩
theorem eX1_digit_21 : Dc cX1_digit 21 (.goto 4) 3 24 := ⟨by decide +kernel, rfl⟩
theorem eX1_digit_24 : Dc cX1_digit 24 (.iconst 0) 1 25 := ⟨by decide +kernel, rfl⟩
theorem eX1_digit_25 : Dc cX1_digit 25 (.ireturn) 1 26 := ⟨by decide +kernel, rfl⟩
def fX1_digit (c : SS) (p1 : Int32) : Option (Int32) := if p1 < (0 : Int32) then some (0 : Int32) else if (c.1 0) ≤ p1 then some (0 : Int32) else ald 20 (c.2 0) p1 (fun v3 => some (v3 - (48 : Int32)))
set_option maxRecDepth 20000 in
theorem ctX1_digit (l : Launch) (G : tg_G) (A : Nat → Nat) (c : SS) (p1 : Int32) {z : Int32} (h : fX1_digit c p1 = some z) : Mt l G yX1_digit cX1_digit 2 (some .int) (tg_R 0 0) [.ref (A 1), .int p1] (wC G A c) (fun v w1 => v = some (.int z) ∧ w1 = wC G A c) := by
  refine Mt_of2 (own := "TramGod$Pad") (nm := "digit") rfl rfl rfl (Nat.le_of_ble_eq_true rfl) (lv := [(0, .ref (A 1)), (1, .int p1)]) rfl ?_
  unfold fX1_digit at h
  refine V_iload_n eX1_digit_0 1 rfl ?_
  refine V_if_lt (tgt := 24) eX1_digit_1 rfl (fun hb1 => ?_) (fun hb1 => ?_)
  · replace h := (if_pos hb1).symm.trans h
    refine V_iconst (v := (0 : Int32)) eX1_digit_24 rfl ?_
    obtain rfl := Option.some.inj h
    exact V_ret eX1_digit_25 rfl ⟨rfl, rfl⟩
  · replace h := (if_neg hb1).symm.trans h
    refine V_iload_n eX1_digit_4 1 rfl ?_
    refine V_aload_n eX1_digit_5 0 rfl ?_
    refine V_get (v := .int (c.1 0)) eX1_digit_6 inX1 1 rfl rfl 1 (Nat.le_of_ble_eq_true rfl) tw_27 rfl ?_
    refine V_icmp_ge (tgt := 24) eX1_digit_9 rfl (fun hb2 => ?_) (fun hb2 => ?_)
    · replace h := (if_pos hb2).symm.trans h
      refine V_iconst (v := (0 : Int32)) eX1_digit_24 rfl ?_
      obtain rfl := Option.some.inj h
      exact V_ret eX1_digit_25 rfl ⟨rfl, rfl⟩
    · replace h := (if_neg hb2).symm.trans h
      refine V_aload_n eX1_digit_12 0 rfl ?_
      refine V_get (v := .ref (A 2)) eX1_digit_13 inX1 1 rfl rfl 0 (Nat.le_of_ble_eq_true rfl) tw_26 rfl ?_
      refine V_iload_n eX1_digit_16 1 rfl ?_
      obtain ⟨v3, hi3, ev3, h⟩ := ald_some h
      refine V_ialdv eX1_digit_17 2 rfl hi3 ev3 ?_
      refine V_bipush (v := (48 : Int32)) eX1_digit_18 rfl ?_
      refine V_isub eX1_digit_20 ?_
      refine V_goto (tgt := 25) eX1_digit_21 rfl ?_
      obtain rfl := Option.some.inj h
      exact V_ret eX1_digit_25 rfl ⟨rfl, rfl⟩
theorem hdX1_faultOf : yX1_faultOf.cls ≠ "java/lang/invoke/MethodHandle" ∧ yX1_faultOf.cls ≠ "java/lang/invoke/VarHandle" ∧ (parseMethodDescriptor yX1_faultOf.desc).map (fun d => d.parameters.length) = some 2 := by decide +kernel
theorem eX1_faultOf_0 : Dc cX1_faultOf 0 (.iconst 0) 1 1 := ⟨by decide +kernel, rfl⟩
theorem eX1_faultOf_1 : Dc cX1_faultOf 1 (.istore_n 3) 1 2 := ⟨by decide +kernel, rfl⟩
theorem eX1_faultOf_2 : Dc cX1_faultOf 2 (.iload_n 3) 1 3 := ⟨by decide +kernel, rfl⟩
theorem eX1_faultOf_3 : Dc cX1_faultOf 3 (.aload_n 0) 1 4 := ⟨by decide +kernel, rfl⟩
theorem eX1_faultOf_4 : Dc cX1_faultOf 4 (.getfield 15) 3 7 := ⟨by decide +kernel, rfl⟩
theorem eX1_faultOf_7 : Dc cX1_faultOf 7 (.if_icmp .ge 30) 3 10 := ⟨by decide +kernel, rfl⟩
theorem eX1_faultOf_10 : Dc cX1_faultOf 10 (.iload_n 3) 1 11 := ⟨by decide +kernel, rfl⟩
theorem eX1_faultOf_11 : Dc cX1_faultOf 11 (.iload_n 2) 1 12 := ⟨by decide +kernel, rfl⟩
theorem eX1_faultOf_12 : Dc cX1_faultOf 12 (.if_icmp .ge 17) 3 15 := ⟨by decide +kernel, rfl⟩
theorem eX1_faultOf_15 : Dc cX1_faultOf 15 (.aload_n 0) 1 16 := ⟨by decide +kernel, rfl⟩
theorem eX1_faultOf_16 : Dc cX1_faultOf 16 (.iload_n 3) 1 17 := ⟨by decide +kernel, rfl⟩
theorem eX1_faultOf_17 : Dc cX1_faultOf 17 (.invokevirtual 19) 3 20 := ⟨by decide +kernel, rfl⟩
theorem eX1_faultOf_20 : Dc cX1_faultOf 20 (.iconst 0) 1 21 := ⟨by decide +kernel, rfl⟩
theorem eX1_faultOf_21 : Dc cX1_faultOf 21 (.bipush 9) 2 23 := ⟨by decide +kernel, rfl⟩
theorem eX1_faultOf_23 : Dc cX1_faultOf 23 (.invokestatic 23) 3 26 := ⟨by decide +kernel, rfl⟩
theorem eX1_faultOf_26 : Dc cX1_faultOf 26 (.ifCond .ne 5) 3 29 := ⟨by decide +kernel, rfl⟩
theorem eX1_faultOf_29 : Dc cX1_faultOf 29 (.iload_n 3) 1 30 := ⟨by decide +kernel, rfl⟩
theorem eX1_faultOf_30 : Dc cX1_faultOf 30 (.ireturn) 1 31 := ⟨by decide +kernel, rfl⟩
theorem eX1_faultOf_31 : Dc cX1_faultOf 31 (.iinc 3 1) 3 34 := ⟨by decide +kernel, rfl⟩
theorem eX1_faultOf_34 : Dc cX1_faultOf 34 (.goto (-32)) 3 37 := ⟨by decide +kernel, rfl⟩
theorem eX1_faultOf_37 : Dc cX1_faultOf 37 (.aload_n 0) 1 38 := ⟨by decide +kernel, rfl⟩
theorem eX1_faultOf_38 : Dc cX1_faultOf 38 (.getfield 15) 3 41 := ⟨by decide +kernel, rfl⟩
theorem eX1_faultOf_41 : Dc cX1_faultOf 41 (.iload_n 1) 1 42 := ⟨by decide +kernel, rfl⟩
theorem eX1_faultOf_42 : Dc cX1_faultOf 42 (.if_icmp .ge 10) 3 45 := ⟨by decide +kernel, rfl⟩
theorem eX1_faultOf_45 : Dc cX1_faultOf 45 (.aload_n 0) 1 46 := ⟨by decide +kernel, rfl⟩
theorem eX1_faultOf_46 : Dc cX1_faultOf 46 (.getfield 15) 3 49 := ⟨by decide +kernel, rfl⟩
theorem eX1_faultOf_49 : Dc cX1_faultOf 49 (.goto 5) 3 52 := ⟨by decide +kernel, rfl⟩
theorem eX1_faultOf_52 : Dc cX1_faultOf 52 (.bipush (-6)) 2 54 := ⟨by decide +kernel, rfl⟩
theorem eX1_faultOf_54 : Dc cX1_faultOf 54 (.ireturn) 1 55 := ⟨by decide +kernel, rfl⟩
def fX1_faultOf_L2 (k : Unit → Option (Int32)) (c : SS) (a1 : Int32) (a2 : Int32) : Nat → Int32 → Option (Int32)
  | 0, _ => none
  | n + 1, a3 => if (c.1 0) ≤ a3 then k () else if a2 ≤ a3 then some a3 else Option.bind (fX1_digit c a3) (fun q3 => if (fX6_within q3 (0 : Int32) (9 : Int32)) = (0 : Int32) then some a3 else fX1_faultOf_L2 k c a1 a2 n (a3 + (1 : Int32)))
def fX1_faultOf (c : SS) (p1 : Int32) (p2 : Int32) : Option (Int32) := fX1_faultOf_L2 (fun (_ : Unit) => if p1 ≤ (c.1 0) then some (-6 : Int32) else some (c.1 0)) c p1 p2 fu (0 : Int32)
set_option maxRecDepth 20000 in
theorem ctX1_faultOf_L2 (l : Launch) (G : tg_G) (A : Nat → Nat) (k : Unit → Option (Int32)) (c : SS) (a1 : Int32) (a2 : Int32) {z : Int32} (hk : k () = some z → V l G (tg_Zm G (fun v w1 => v = some (.int z) ∧ w1 = wC G A c) 0 0) tg_E0 (tg_R 1 22) "TramGod$Pad" "faultOf" cX1_faultOf 4 (some .int) 37 [(0, .ref (A 1)), (1, .int a1)] [] (wC G A c) 0 0) : ∀ (n : Nat) (a3 : Int32), fX1_faultOf_L2 k c a1 a2 n a3 = some z → V l G (tg_Zm G (fun v w1 => v = some (.int z) ∧ w1 = wC G A c) 0 0) tg_E0 (tg_R 1 22) "TramGod$Pad" "faultOf" cX1_faultOf 4 (some .int) 2 [(0, .ref (A 1)), (1, .int a1), (2, .int a2), (3, .int a3)] [] (wC G A c) 0 0 := by
  intro n
  induction n with
  | zero => intro a3 h; exact absurd h (by simp [fX1_faultOf_L2])
  | succ n ih =>
    intro a3 h
    unfold fX1_faultOf_L2 at h
    refine V_iload_n eX1_faultOf_2 3 rfl ?_
    refine V_aload_n eX1_faultOf_3 0 rfl ?_
    refine V_get (v := .int (c.1 0)) eX1_faultOf_4 inX1 1 rfl rfl 1 (Nat.le_of_ble_eq_true rfl) tw_27 rfl ?_
    refine V_icmp_ge (tgt := 37) eX1_faultOf_7 rfl (fun hb1 => ?_) (fun hb1 => ?_)
    · replace h := (if_pos hb1).symm.trans h
      refine V_lv (lv' := [(0, .ref (A 1)), (1, .int a1)]) [0, 1] rfl ?_
      exact hk h
    · replace h := (if_neg hb1).symm.trans h
      refine V_iload_n eX1_faultOf_10 3 rfl ?_
      refine V_iload_n eX1_faultOf_11 2 rfl ?_
      refine V_icmp_ge (tgt := 29) eX1_faultOf_12 rfl (fun hb2 => ?_) (fun hb2 => ?_)
      · replace h := (if_pos hb2).symm.trans h
        refine V_iload_n eX1_faultOf_29 3 rfl ?_
        obtain rfl := Option.some.inj h
        exact V_ret eX1_faultOf_30 rfl ⟨rfl, rfl⟩
      · replace h := (if_neg hb2).symm.trans h
        refine V_aload_n eX1_faultOf_15 0 rfl ?_
        refine V_iload_n eX1_faultOf_16 3 rfl ?_
        obtain ⟨q3, hc3, h⟩ := Option.bind_eq_some_iff.mp h
        refine V_callVi (rest := []) eX1_faultOf_17 (ctX1_digit l G A c a3 hc3) tc_261 tw_258 tw_2 tw_259 tw_260 1 rfl rfl hdX1_digit rfl ⟨Nat.le_of_ble_eq_true rfl, Nat.le_of_ble_eq_true rfl⟩ rfl (Nat.le_of_ble_eq_true rfl) ⟨Nat.zero_le _, Nat.zero_le _⟩ ?_
        refine V_iconst (v := (0 : Int32)) eX1_faultOf_20 rfl ?_
        refine V_bipush (v := (9 : Int32)) eX1_faultOf_21 rfl ?_
        refine V_callSNi (rest := []) eX1_faultOf_23 (ctX6_within l G _ q3 (0 : Int32) (9 : Int32) rfl) tc_241 (List.mem_of_getElem? (i := 2) rfl) tw_1 tw_240 hdX6_within rfl ⟨Nat.le_of_ble_eq_true rfl, Nat.le_of_ble_eq_true rfl⟩ rfl (Nat.le_of_ble_eq_true rfl) ⟨Nat.zero_le _, Nat.zero_le _⟩ ?_
        refine V_if_ne (tgt := 31) eX1_faultOf_26 rfl (fun hb4 => ?_) (fun hb4 => ?_)
        · replace h := (if_neg hb4).symm.trans h
          refine V_iinc (v := (a3 + (1 : Int32))) (lv' := [(3, .int (a3 + (1 : Int32))), (0, .ref (A 1)), (1, .int a1), (2, .int a2)]) eX1_faultOf_31 3 rfl rfl (Nat.le_of_ble_eq_true rfl) rfl ?_
          refine V_goto (tgt := 2) eX1_faultOf_34 rfl ?_
          refine V_lv (lv' := [(0, .ref (A 1)), (1, .int a1), (2, .int a2), (3, .int (a3 + (1 : Int32)))]) [1, 2, 3, 0] rfl ?_
          exact ih (a3 + (1 : Int32)) h
        · replace h := (if_pos hb4).symm.trans h
          refine V_iload_n eX1_faultOf_29 3 rfl ?_
          obtain rfl := Option.some.inj h
          exact V_ret eX1_faultOf_30 rfl ⟨rfl, rfl⟩
set_option maxRecDepth 20000 in
theorem ctX1_faultOf (l : Launch) (G : tg_G) (A : Nat → Nat) (c : SS) (p1 : Int32) (p2 : Int32) {z : Int32} (h : fX1_faultOf c p1 p2 = some z) : Mt l G yX1_faultOf cX1_faultOf 4 (some .int) (tg_R 1 22) [.ref (A 1), .int p1, .int p2] (wC G A c) (fun v w1 => v = some (.int z) ∧ w1 = wC G A c) := by
  refine Mt_of2 (own := "TramGod$Pad") (nm := "faultOf") rfl rfl rfl (Nat.le_of_ble_eq_true rfl) (lv := [(0, .ref (A 1)), (1, .int p1), (2, .int p2)]) rfl ?_
  unfold fX1_faultOf at h
  refine V_iconst (v := (0 : Int32)) eX1_faultOf_0 rfl ?_
  refine V_istore_n (lv' := [(3, .int (0 : Int32)), (0, .ref (A 1)), (1, .int p1), (2, .int p2)]) eX1_faultOf_1 (Nat.le_of_ble_eq_true rfl) rfl ?_
  refine V_lv (lv' := [(0, .ref (A 1)), (1, .int p1), (2, .int p2), (3, .int (0 : Int32))]) [1, 2, 3, 0] rfl ?_
  refine ctX1_faultOf_L2 l G A _ c p1 p2 ?_ fu (0 : Int32) h
  · intro h
    refine V_aload_n eX1_faultOf_37 0 rfl ?_
    refine V_get (v := .int (c.1 0)) eX1_faultOf_38 inX1 1 rfl rfl 1 (Nat.le_of_ble_eq_true rfl) tw_27 rfl ?_
    refine V_iload_n eX1_faultOf_41 1 rfl ?_
    refine V_icmp_ge (tgt := 52) eX1_faultOf_42 rfl (fun hb5 => ?_) (fun hb5 => ?_)
    · replace h := (if_pos hb5).symm.trans h
      refine V_bipush (v := (-6 : Int32)) eX1_faultOf_52 rfl ?_
      obtain rfl := Option.some.inj h
      exact V_ret eX1_faultOf_54 rfl ⟨rfl, rfl⟩
    · replace h := (if_neg hb5).symm.trans h
      refine V_aload_n eX1_faultOf_45 0 rfl ?_
      refine V_get (v := .int (c.1 0)) eX1_faultOf_46 inX1 1 rfl rfl 1 (Nat.le_of_ble_eq_true rfl) tw_27 rfl ?_
      refine V_goto (tgt := 54) eX1_faultOf_49 rfl ?_
      obtain rfl := Option.some.inj h
      exact V_ret eX1_faultOf_54 rfl ⟨rfl, rfl⟩
theorem hdX6_fault : yX6_fault.cls ≠ "java/lang/invoke/MethodHandle" ∧ yX6_fault.cls ≠ "java/lang/invoke/VarHandle" ∧ (parseMethodDescriptor yX6_fault.desc).map (fun d => d.parameters.length) = some 1 := by decide +kernel
theorem eX6_fault_0 : Dc cX6_fault 0 (.iload_n 1) 1 1 := ⟨by decide +kernel, rfl⟩
theorem eX6_fault_1 : Dc cX6_fault 1 (.ifCond .ne 14) 3 4 := ⟨by decide +kernel, rfl⟩
theorem eX6_fault_4 : Dc cX6_fault 4 (.aload_n 0) 1 5 := ⟨by decide +kernel, rfl⟩
theorem eX6_fault_5 : Dc cX6_fault 5 (.getfield 10) 3 8 := ⟨by decide +kernel, rfl⟩
theorem eX6_fault_8 : Dc cX6_fault 8 (.iconst 1) 1 9 := ⟨by decide +kernel, rfl⟩
theorem eX6_fault_9 : Dc cX6_fault 9 (.bipush 6) 2 11 := ⟨by decide +kernel, rfl⟩
theorem eX6_fault_11 : Dc cX6_fault 11 (.invokevirtual 80) 3 14 := ⟨by decide +kernel, rfl⟩
theorem eX6_fault_14 : Dc cX6_fault 14 (.ireturn) 1 15 := ⟨by decide +kernel, rfl⟩
theorem eX6_fault_15 : Dc cX6_fault 15 (.iload_n 1) 1 16 := ⟨by decide +kernel, rfl⟩
theorem eX6_fault_16 : Dc cX6_fault 16 (.iconst 1) 1 17 := ⟨by decide +kernel, rfl⟩
theorem eX6_fault_17 : Dc cX6_fault 17 (.if_icmp .ne 27) 3 20 := ⟨by decide +kernel, rfl⟩
theorem eX6_fault_20 : Dc cX6_fault 20 (.aload_n 0) 1 21 := ⟨by decide +kernel, rfl⟩
theorem eX6_fault_21 : Dc cX6_fault 21 (.getfield 10) 3 24 := ⟨by decide +kernel, rfl⟩
theorem eX6_fault_24 : Dc cX6_fault 24 (.aload_n 0) 1 25 := ⟨by decide +kernel, rfl⟩
theorem eX6_fault_25 : Dc cX6_fault 25 (.getfield 19) 3 28 := ⟨by decide +kernel, rfl⟩
theorem eX6_fault_28 : Dc cX6_fault 28 (.getfield 84) 3 31 := ⟨by decide +kernel, rfl⟩
theorem eX6_fault_31 : Dc cX6_fault 31 (.aload_n 0) 1 32 := ⟨by decide +kernel, rfl⟩
theorem eX6_fault_32 : Dc cX6_fault 32 (.getfield 19) 3 35 := ⟨by decide +kernel, rfl⟩
theorem eX6_fault_35 : Dc cX6_fault 35 (.getfield 84) 3 38 := ⟨by decide +kernel, rfl⟩
theorem eX6_fault_38 : Dc cX6_fault 38 (.invokevirtual 80) 3 41 := ⟨by decide +kernel, rfl⟩
theorem eX6_fault_41 : Dc cX6_fault 41 (.goto 5) 3 44 := ⟨by decide +kernel, rfl⟩
theorem eX6_fault_44 : Dc cX6_fault 44 (.bipush (-2)) 2 46 := ⟨by decide +kernel, rfl⟩
theorem eX6_fault_46 : Dc cX6_fault 46 (.ireturn) 1 47 := ⟨by decide +kernel, rfl⟩
def fX6_fault (c : SS) (p1 : Int32) : Option (Int32) := if p1 = (0 : Int32) then Option.bind (fX1_faultOf c (1 : Int32) (6 : Int32)) (fun q4 => some q4) else if p1 = (1 : Int32) then Option.bind (fX1_faultOf c (c.1 1) (c.1 1)) (fun q3 => some q3) else some (-2 : Int32)
set_option maxRecDepth 20000 in
theorem ctX6_fault (l : Launch) (G : tg_G) (A : Nat → Nat) (c : SS) (p1 : Int32) {z : Int32} (h : fX6_fault c p1 = some z) : Mt l G yX6_fault cX6_fault 2 (some .int) (tg_R 2 45) [.ref (A 0), .int p1] (wC G A c) (fun v w1 => v = some (.int z) ∧ w1 = wC G A c) := by
  refine Mt_of2 (own := "TramGod") (nm := "fault") rfl rfl rfl (Nat.le_of_ble_eq_true rfl) (lv := [(0, .ref (A 0)), (1, .int p1)]) rfl ?_
  unfold fX6_fault at h
  refine V_iload_n eX6_fault_0 1 rfl ?_
  refine V_if_ne (tgt := 15) eX6_fault_1 rfl (fun hb1 => ?_) (fun hb1 => ?_)
  · replace h := (if_neg hb1).symm.trans h
    refine V_iload_n eX6_fault_15 1 rfl ?_
    refine V_iconst (v := (1 : Int32)) eX6_fault_16 rfl ?_
    refine V_icmp_ne (tgt := 44) eX6_fault_17 rfl (fun hb2 => ?_) (fun hb2 => ?_)
    · replace h := (if_neg hb2).symm.trans h
      refine V_bipush (v := (-2 : Int32)) eX6_fault_44 rfl ?_
      obtain rfl := Option.some.inj h
      exact V_ret eX6_fault_46 rfl ⟨rfl, rfl⟩
    · replace h := (if_pos hb2).symm.trans h
      refine V_aload_n eX6_fault_20 0 rfl ?_
      refine V_get (v := .ref (A 1)) eX6_fault_21 inX6 0 rfl rfl 0 (Nat.le_of_ble_eq_true rfl) tw_207 rfl ?_
      refine V_aload_n eX6_fault_24 0 rfl ?_
      refine V_get (v := .ref (A 3)) eX6_fault_25 inX6 0 rfl rfl 1 (Nat.le_of_ble_eq_true rfl) tw_208 rfl ?_
      refine V_get (v := .int (c.1 1)) eX6_fault_28 inX5 3 rfl rfl 0 (Nat.le_of_ble_eq_true rfl) tw_44 rfl ?_
      refine V_aload_n eX6_fault_31 0 rfl ?_
      refine V_get (v := .ref (A 3)) eX6_fault_32 inX6 0 rfl rfl 1 (Nat.le_of_ble_eq_true rfl) tw_208 rfl ?_
      refine V_get (v := .int (c.1 1)) eX6_fault_35 inX5 3 rfl rfl 0 (Nat.le_of_ble_eq_true rfl) tw_44 rfl ?_
      obtain ⟨q3, hc3, h⟩ := Option.bind_eq_some_iff.mp h
      refine V_callVi (rest := []) eX6_fault_38 (ctX1_faultOf l G A c (c.1 1) (c.1 1) hc3) tc_257 tw_254 tw_2 tw_255 tw_256 1 rfl rfl hdX1_faultOf rfl ⟨Nat.le_of_ble_eq_true rfl, Nat.le_of_ble_eq_true rfl⟩ rfl (Nat.le_of_ble_eq_true rfl) ⟨Nat.zero_le _, Nat.zero_le _⟩ ?_
      refine V_goto (tgt := 46) eX6_fault_41 rfl ?_
      obtain rfl := Option.some.inj h
      exact V_ret eX6_fault_46 rfl ⟨rfl, rfl⟩
  · replace h := (if_pos hb1).symm.trans h
    refine V_aload_n eX6_fault_4 0 rfl ?_
    refine V_get (v := .ref (A 1)) eX6_fault_5 inX6 0 rfl rfl 0 (Nat.le_of_ble_eq_true rfl) tw_207 rfl ?_
    refine V_iconst (v := (1 : Int32)) eX6_fault_8 rfl ?_
    refine V_bipush (v := (6 : Int32)) eX6_fault_9 rfl ?_
    obtain ⟨q4, hc4, h⟩ := Option.bind_eq_some_iff.mp h
    refine V_callVi (rest := []) eX6_fault_11 (ctX1_faultOf l G A c (1 : Int32) (6 : Int32) hc4) tc_257 tw_254 tw_2 tw_255 tw_256 1 rfl rfl hdX1_faultOf rfl ⟨Nat.le_of_ble_eq_true rfl, Nat.le_of_ble_eq_true rfl⟩ rfl (Nat.le_of_ble_eq_true rfl) ⟨Nat.zero_le _, Nat.zero_le _⟩ ?_
    obtain rfl := Option.some.inj h
    exact V_ret eX6_fault_14 rfl ⟨rfl, rfl⟩
theorem hdX5_clearSights : yX5_clearSights.cls ≠ "java/lang/invoke/MethodHandle" ∧ yX5_clearSights.cls ≠ "java/lang/invoke/VarHandle" ∧ (parseMethodDescriptor yX5_clearSights.desc).map (fun d => d.parameters.length) = some 0 := by decide +kernel
theorem eX5_clearSights_0 : Dc cX5_clearSights 0 (.aload_n 0) 1 1 := ⟨by decide +kernel, rfl⟩
theorem eX5_clearSights_1 : Dc cX5_clearSights 1 (.iconst 0) 1 2 := ⟨by decide +kernel, rfl⟩
theorem eX5_clearSights_2 : Dc cX5_clearSights 2 (.putfield 49) 3 5 := ⟨by decide +kernel, rfl⟩
theorem eX5_clearSights_5 : Dc cX5_clearSights 5 (.aload_n 0) 1 6 := ⟨by decide +kernel, rfl⟩
theorem eX5_clearSights_6 : Dc cX5_clearSights 6 (.iconst 0) 1 7 := ⟨by decide +kernel, rfl⟩
theorem eX5_clearSights_7 : Dc cX5_clearSights 7 (.putfield 52) 3 10 := ⟨by decide +kernel, rfl⟩
theorem eX5_clearSights_10 : Dc cX5_clearSights 10 (.aload_n 0) 1 11 := ⟨by decide +kernel, rfl⟩
theorem eX5_clearSights_11 : Dc cX5_clearSights 11 (.iconst 0) 1 12 := ⟨by decide +kernel, rfl⟩
theorem eX5_clearSights_12 : Dc cX5_clearSights 12 (.putfield 55) 3 15 := ⟨by decide +kernel, rfl⟩
theorem eX5_clearSights_15 : Dc cX5_clearSights 15 (.return_) 1 16 := ⟨by decide +kernel, rfl⟩
def fX5_clearSights (c : SS)  : SS := (sF (sF (sF c 6 (0 : Int32)) 7 (0 : Int32)) 8 (0 : Int32))
set_option maxRecDepth 20000 in
theorem ctX5_clearSights (l : Launch) (G : tg_G) (A : Nat → Nat) (c : SS)  {z : SS} (h : fX5_clearSights c  = z) : Mt l G yX5_clearSights cX5_clearSights 1 none (tg_R 0 0) [.ref (A 3)] (wC G A c) (fun v w1 => v = none ∧ w1 = wC G A z) := by
  refine Mt_of2 (own := "TramGod$World") (nm := "clearSights") rfl rfl rfl (Nat.le_of_ble_eq_true rfl) (lv := [(0, .ref (A 3))]) rfl ?_
  unfold fX5_clearSights at h
  refine V_aload_n eX5_clearSights_0 0 rfl ?_
  refine V_iconst (v := (0 : Int32)) eX5_clearSights_1 rfl ?_
  refine V_put (w' := wC G A (sF c 6 (0 : Int32))) eX5_clearSights_2 inX5 tyX5 tyX5_ok nmX5 3 rfl rfl 5 (Nat.le_of_ble_eq_true rfl) tw_56 rfl rfl rfl rfl (Nat.le_of_ble_eq_true rfl) rfl ?_
  refine V_aload_n eX5_clearSights_5 0 rfl ?_
  refine V_iconst (v := (0 : Int32)) eX5_clearSights_6 rfl ?_
  refine V_put (w' := wC G A (sF (sF c 6 (0 : Int32)) 7 (0 : Int32))) eX5_clearSights_7 inX5 tyX5 tyX5_ok nmX5 3 rfl rfl 6 (Nat.le_of_ble_eq_true rfl) tw_58 rfl rfl rfl rfl (Nat.le_of_ble_eq_true rfl) rfl ?_
  refine V_aload_n eX5_clearSights_10 0 rfl ?_
  refine V_iconst (v := (0 : Int32)) eX5_clearSights_11 rfl ?_
  refine V_put (w' := wC G A (sF (sF (sF c 6 (0 : Int32)) 7 (0 : Int32)) 8 (0 : Int32))) eX5_clearSights_12 inX5 tyX5 tyX5_ok nmX5 3 rfl rfl 7 (Nat.le_of_ble_eq_true rfl) tw_60 rfl rfl rfl rfl (Nat.le_of_ble_eq_true rfl) rfl ?_
  subst h
  exact V_vret eX5_clearSights_15 rfl ⟨rfl, rfl⟩
theorem hdX5_startLine : yX5_startLine.cls ≠ "java/lang/invoke/MethodHandle" ∧ yX5_startLine.cls ≠ "java/lang/invoke/VarHandle" ∧ (parseMethodDescriptor yX5_startLine.desc).map (fun d => d.parameters.length) = some 1 := by decide +kernel
theorem eX5_startLine_0 : Dc cX5_startLine 0 (.aload_n 0) 1 1 := ⟨by decide +kernel, rfl⟩
theorem eX5_startLine_1 : Dc cX5_startLine 1 (.iconst 1) 1 2 := ⟨by decide +kernel, rfl⟩
theorem eX5_startLine_2 : Dc cX5_startLine 2 (.aload_n 1) 1 3 := ⟨by decide +kernel, rfl⟩
theorem eX5_startLine_3 : Dc cX5_startLine 3 (.getfield 64) 3 6 := ⟨by decide +kernel, rfl⟩
theorem eX5_startLine_6 : Dc cX5_startLine 6 (.bipush 6) 2 8 := ⟨by decide +kernel, rfl⟩
theorem eX5_startLine_8 : Dc cX5_startLine 8 (.invokestatic 69) 3 11 := ⟨by decide +kernel, rfl⟩
theorem eX5_startLine_11 : Dc cX5_startLine 11 (.invokestatic 75) 3 14 := ⟨by decide +kernel, rfl⟩
theorem eX5_startLine_14 : Dc cX5_startLine 14 (.putfield 9) 3 17 := ⟨by decide +kernel, rfl⟩
theorem eX5_startLine_17 : Dc cX5_startLine 17 (.iconst 0) 1 18 := ⟨by decide +kernel, rfl⟩
theorem eX5_startLine_18 : Dc cX5_startLine 18 (.istore_n 2) 1 19 := ⟨by decide +kernel, rfl⟩
theorem eX5_startLine_19 : Dc cX5_startLine 19 (.iload_n 2) 1 20 := ⟨by decide +kernel, rfl⟩
theorem eX5_startLine_20 : Dc cX5_startLine 20 (.aload_n 0) 1 21 := ⟨by decide +kernel, rfl⟩
theorem eX5_startLine_21 : Dc cX5_startLine 21 (.getfield 9) 3 24 := ⟨by decide +kernel, rfl⟩
theorem eX5_startLine_24 : Dc cX5_startLine 24 (.if_icmp .ge 20) 3 27 := ⟨by decide +kernel, rfl⟩
theorem eX5_startLine_27 : Dc cX5_startLine 27 (.aload_n 0) 1 28 := ⟨by decide +kernel, rfl⟩
theorem eX5_startLine_28 : Dc cX5_startLine 28 (.getfield 21) 3 31 := ⟨by decide +kernel, rfl⟩
theorem eX5_startLine_31 : Dc cX5_startLine 31 (.iload_n 2) 1 32 := ⟨by decide +kernel, rfl⟩
theorem eX5_startLine_32 : Dc cX5_startLine 32 (.aload_n 1) 1 33 := ⟨by decide +kernel, rfl⟩
theorem eX5_startLine_33 : Dc cX5_startLine 33 (.iload_n 2) 1 34 := ⟨by decide +kernel, rfl⟩
theorem eX5_startLine_34 : Dc cX5_startLine 34 (.invokevirtual 78) 3 37 := ⟨by decide +kernel, rfl⟩
theorem eX5_startLine_37 : Dc cX5_startLine 37 (.iastore) 1 38 := ⟨by decide +kernel, rfl⟩
theorem eX5_startLine_38 : Dc cX5_startLine 38 (.iinc 2 1) 3 41 := ⟨by decide +kernel, rfl⟩
theorem eX5_startLine_41 : Dc cX5_startLine 41 (.goto (-22)) 3 44 := ⟨by decide +kernel, rfl⟩
theorem eX5_startLine_44 : Dc cX5_startLine 44 (.aload_n 0) 1 45 := ⟨by decide +kernel, rfl⟩
theorem eX5_startLine_45 : Dc cX5_startLine 45 (.iconst 0) 1 46 := ⟨by decide +kernel, rfl⟩
theorem eX5_startLine_46 : Dc cX5_startLine 46 (.putfield 43) 3 49 := ⟨by decide +kernel, rfl⟩
theorem eX5_startLine_49 : Dc cX5_startLine 49 (.aload_n 0) 1 50 := ⟨by decide +kernel, rfl⟩
theorem eX5_startLine_50 : Dc cX5_startLine 50 (.iconst 0) 1 51 := ⟨by decide +kernel, rfl⟩
theorem eX5_startLine_51 : Dc cX5_startLine 51 (.putfield 46) 3 54 := ⟨by decide +kernel, rfl⟩
theorem eX5_startLine_54 : Dc cX5_startLine 54 (.aload_n 0) 1 55 := ⟨by decide +kernel, rfl⟩
theorem eX5_startLine_55 : Dc cX5_startLine 55 (.invokevirtual 82) 3 58 := ⟨by decide +kernel, rfl⟩
theorem eX5_startLine_58 : Dc cX5_startLine 58 (.return_) 1 59 := ⟨by decide +kernel, rfl⟩
def fX5_startLine_1_L19 (k : SS → Option (SS))  : Nat → Int32 → SS → Option (SS)
  | 0, _, _ => none
  | n + 1, a2, c => if (c.1 1) ≤ a2 then k c else Option.bind (fX1_digit c a2) (fun q2 => ckb 6 a2 (fX5_startLine_1_L19 k n (a2 + (1 : Int32)) (sA c 1 (a2).toNatClampNeg q2)))
def fX5_startLine_1 (c : SS)  : Option (SS) := fX5_startLine_1_L19 (fun (c4 : SS) => some (fX5_clearSights (sF (sF c4 2 (0 : Int32)) 5 (0 : Int32)))) fu (0 : Int32) (sF c 1 (mmax (1 : Int32) (mmin (c.1 0) (6 : Int32))))
set_option maxRecDepth 20000 in
theorem ctX5_startLine_1_L19 (l : Launch) (G : tg_G) (A : Nat → Nat) (k : SS → Option (SS))  {z : SS} (hk : ∀ (ec : SS), k ec = some z → V l G (tg_Zm G (fun v w1 => v = none ∧ w1 = wC G A z) 0 0) tg_E0 (tg_R 1 21) "TramGod$World" "startLine" cX5_startLine 3 none 44 [(0, .ref (A 3))] [] (wC G A ec) 0 0) : ∀ (n : Nat) (a2 : Int32) (c : SS), fX5_startLine_1_L19 k n a2 c = some z → V l G (tg_Zm G (fun v w1 => v = none ∧ w1 = wC G A z) 0 0) tg_E0 (tg_R 1 21) "TramGod$World" "startLine" cX5_startLine 3 none 19 [(0, .ref (A 3)), (1, .ref (A 1)), (2, .int a2)] [] (wC G A c) 0 0 := by
  intro n
  induction n with
  | zero => intro a2 c h; exact absurd h (by simp [fX5_startLine_1_L19])
  | succ n ih =>
    intro a2 c h
    unfold fX5_startLine_1_L19 at h
    refine V_iload_n eX5_startLine_19 2 rfl ?_
    refine V_aload_n eX5_startLine_20 0 rfl ?_
    refine V_get (v := .int (c.1 1)) eX5_startLine_21 inX5 3 rfl rfl 0 (Nat.le_of_ble_eq_true rfl) tw_42 rfl ?_
    refine V_icmp_ge (tgt := 44) eX5_startLine_24 rfl (fun hb1 => ?_) (fun hb1 => ?_)
    · replace h := (if_pos hb1).symm.trans h
      refine V_lv (lv' := [(0, .ref (A 3))]) [0] rfl ?_
      exact hk c h
    · replace h := (if_neg hb1).symm.trans h
      refine V_aload_n eX5_startLine_27 0 rfl ?_
      refine V_get (v := .ref (A 4)) eX5_startLine_28 inX5 3 rfl rfl 8 (Nat.le_of_ble_eq_true rfl) tw_62 rfl ?_
      refine V_iload_n eX5_startLine_31 2 rfl ?_
      refine V_aload_n eX5_startLine_32 1 rfl ?_
      refine V_iload_n eX5_startLine_33 2 rfl ?_
      obtain ⟨q2, hc2, h⟩ := Option.bind_eq_some_iff.mp h
      refine V_callVi (rest := [.int a2, .ref (A 4)]) eX5_startLine_34 (ctX1_digit l G A c a2 hc2) tc_261 tw_277 tw_2 tw_259 tw_260 1 rfl rfl hdX1_digit rfl ⟨Nat.le_of_ble_eq_true rfl, Nat.le_of_ble_eq_true rfl⟩ rfl (Nat.le_of_ble_eq_true rfl) ⟨Nat.zero_le _, Nat.zero_le _⟩ ?_
      obtain ⟨hi3, h⟩ := ckb_some h
      refine V_iast (w' := wC G A (sA c 1 (a2).toNatClampNeg q2)) eX5_startLine_37 4 rfl hi3 rfl ?_
      refine V_iinc (v := (a2 + (1 : Int32))) (lv' := [(2, .int (a2 + (1 : Int32))), (0, .ref (A 3)), (1, .ref (A 1))]) eX5_startLine_38 2 rfl rfl (Nat.le_of_ble_eq_true rfl) rfl ?_
      refine V_goto (tgt := 19) eX5_startLine_41 rfl ?_
      refine V_lv (lv' := [(0, .ref (A 3)), (1, .ref (A 1)), (2, .int (a2 + (1 : Int32)))]) [1, 2, 0] rfl ?_
      exact ih (a2 + (1 : Int32)) (sA c 1 (a2).toNatClampNeg q2) h
set_option maxRecDepth 20000 in
theorem ctX5_startLine_1 (l : Launch) (G : tg_G) (A : Nat → Nat) (c : SS)  {z : SS} (h : fX5_startLine_1 c  = some z) : Mt l G yX5_startLine cX5_startLine 3 none (tg_R 1 21) [.ref (A 3), .ref (A 1)] (wC G A c) (fun v w1 => v = none ∧ w1 = wC G A z) := by
  refine Mt_of2 (own := "TramGod$World") (nm := "startLine") rfl rfl rfl (Nat.le_of_ble_eq_true rfl) (lv := [(0, .ref (A 3)), (1, .ref (A 1))]) rfl ?_
  unfold fX5_startLine_1 at h
  refine V_aload_n eX5_startLine_0 0 rfl ?_
  refine V_iconst (v := (1 : Int32)) eX5_startLine_1 rfl ?_
  refine V_aload_n eX5_startLine_2 1 rfl ?_
  refine V_get (v := .int (c.1 0)) eX5_startLine_3 inX1 1 rfl rfl 1 (Nat.le_of_ble_eq_true rfl) tw_29 rfl ?_
  refine V_bipush (v := (6 : Int32)) eX5_startLine_6 rfl ?_
  refine V_mmin (rest := [.int (1 : Int32), .ref (A 3)]) eX5_startLine_8 tw_271 tw_272 tw_9 tc_273 (Nat.le_of_ble_eq_true rfl) (Nat.le_of_ble_eq_true rfl) ⟨Nat.zero_le _, Nat.zero_le _⟩ ?_
  refine V_mmax (rest := [.ref (A 3)]) eX5_startLine_11 tw_274 tw_275 tw_9 tc_276 (Nat.le_of_ble_eq_true rfl) (Nat.le_of_ble_eq_true rfl) ⟨Nat.zero_le _, Nat.zero_le _⟩ ?_
  refine V_put (w' := wC G A (sF c 1 (mmax (1 : Int32) (mmin (c.1 0) (6 : Int32))))) eX5_startLine_14 inX5 tyX5 tyX5_ok nmX5 3 rfl rfl 0 (Nat.le_of_ble_eq_true rfl) tw_42 rfl rfl rfl rfl (Nat.le_of_ble_eq_true rfl) rfl ?_
  refine V_iconst (v := (0 : Int32)) eX5_startLine_17 rfl ?_
  refine V_istore_n (lv' := [(2, .int (0 : Int32)), (0, .ref (A 3)), (1, .ref (A 1))]) eX5_startLine_18 (Nat.le_of_ble_eq_true rfl) rfl ?_
  refine V_lv (lv' := [(0, .ref (A 3)), (1, .ref (A 1)), (2, .int (0 : Int32))]) [1, 2, 0] rfl ?_
  refine ctX5_startLine_1_L19 l G A _ ?_ fu (0 : Int32) (sF c 1 (mmax (1 : Int32) (mmin (c.1 0) (6 : Int32)))) h
  · intro c4 h
    refine V_aload_n eX5_startLine_44 0 rfl ?_
    refine V_iconst (v := (0 : Int32)) eX5_startLine_45 rfl ?_
    refine V_put (w' := wC G A (sF c4 2 (0 : Int32))) eX5_startLine_46 inX5 tyX5 tyX5_ok nmX5 3 rfl rfl 1 (Nat.le_of_ble_eq_true rfl) tw_46 rfl rfl rfl rfl (Nat.le_of_ble_eq_true rfl) rfl ?_
    refine V_aload_n eX5_startLine_49 0 rfl ?_
    refine V_iconst (v := (0 : Int32)) eX5_startLine_50 rfl ?_
    refine V_put (w' := wC G A (sF (sF c4 2 (0 : Int32)) 5 (0 : Int32))) eX5_startLine_51 inX5 tyX5 tyX5_ok nmX5 3 rfl rfl 4 (Nat.le_of_ble_eq_true rfl) tw_54 rfl rfl rfl rfl (Nat.le_of_ble_eq_true rfl) rfl ?_
    refine V_aload_n eX5_startLine_54 0 rfl ?_
    refine V_callVv (rest := []) eX5_startLine_55 (ctX5_clearSights l G A (sF (sF c4 2 (0 : Int32)) 5 (0 : Int32)) rfl) tc_281 tw_278 tw_3 tw_279 tw_280 3 rfl rfl hdX5_clearSights rfl ⟨Nat.le_of_ble_eq_true rfl, Nat.le_of_ble_eq_true rfl⟩ rfl (Nat.le_of_ble_eq_true rfl) ⟨Nat.zero_le _, Nat.zero_le _⟩ ?_
    obtain rfl := Option.some.inj h
    exact V_vret eX5_startLine_58 rfl ⟨rfl, rfl⟩
theorem hdX6_line : yX6_line.cls ≠ "java/lang/invoke/MethodHandle" ∧ yX6_line.cls ≠ "java/lang/invoke/VarHandle" ∧ (parseMethodDescriptor yX6_line.desc).map (fun d => d.parameters.length) = some 0 := by decide +kernel
theorem eX6_line_0 : Dc cX6_line 0 (.aload_n 0) 1 1 := ⟨by decide +kernel, rfl⟩
theorem eX6_line_1 : Dc cX6_line 1 (.getfield 10) 3 4 := ⟨by decide +kernel, rfl⟩
theorem eX6_line_4 : Dc cX6_line 4 (.iconst 1) 1 5 := ⟨by decide +kernel, rfl⟩
theorem eX6_line_5 : Dc cX6_line 5 (.bipush 6) 2 7 := ⟨by decide +kernel, rfl⟩
theorem eX6_line_7 : Dc cX6_line 7 (.invokevirtual 80) 3 10 := ⟨by decide +kernel, rfl⟩
theorem eX6_line_10 : Dc cX6_line 10 (.bipush (-6)) 2 12 := ⟨by decide +kernel, rfl⟩
theorem eX6_line_12 : Dc cX6_line 12 (.if_icmp .eq 6) 3 15 := ⟨by decide +kernel, rfl⟩
theorem eX6_line_15 : Dc cX6_line 15 (.bipush (-5)) 2 17 := ⟨by decide +kernel, rfl⟩
theorem eX6_line_17 : Dc cX6_line 17 (.ireturn) 1 18 := ⟨by decide +kernel, rfl⟩
theorem eX6_line_18 : Dc cX6_line 18 (.aload_n 0) 1 19 := ⟨by decide +kernel, rfl⟩
theorem eX6_line_19 : Dc cX6_line 19 (.getfield 19) 3 22 := ⟨by decide +kernel, rfl⟩
theorem eX6_line_22 : Dc cX6_line 22 (.aload_n 0) 1 23 := ⟨by decide +kernel, rfl⟩
theorem eX6_line_23 : Dc cX6_line 23 (.getfield 10) 3 26 := ⟨by decide +kernel, rfl⟩
theorem eX6_line_26 : Dc cX6_line 26 (.invokevirtual 87) 3 29 := ⟨by decide +kernel, rfl⟩
theorem eX6_line_29 : Dc cX6_line 29 (.aload_n 0) 1 30 := ⟨by decide +kernel, rfl⟩
theorem eX6_line_30 : Dc cX6_line 30 (.getfield 10) 3 33 := ⟨by decide +kernel, rfl⟩
theorem eX6_line_33 : Dc cX6_line 33 (.iconst 0) 1 34 := ⟨by decide +kernel, rfl⟩
theorem eX6_line_34 : Dc cX6_line 34 (.putfield 76) 3 37 := ⟨by decide +kernel, rfl⟩
theorem eX6_line_37 : Dc cX6_line 37 (.aload_n 0) 1 38 := ⟨by decide +kernel, rfl⟩
theorem eX6_line_38 : Dc cX6_line 38 (.getfield 19) 3 41 := ⟨by decide +kernel, rfl⟩
theorem eX6_line_41 : Dc cX6_line 41 (.getfield 84) 3 44 := ⟨by decide +kernel, rfl⟩
theorem eX6_line_44 : Dc cX6_line 44 (.ireturn) 1 45 := ⟨by decide +kernel, rfl⟩
def fX6_line (c : SS)  : Option (Int32 × SS) := Option.bind (fX1_faultOf c (1 : Int32) (6 : Int32)) (fun q1 => if q1 = (-6 : Int32) then Option.bind (fX5_startLine_1 c) (fun q3 => some ((q3.1 1), (sF q3 0 (0 : Int32)))) else some ((-5 : Int32), c))
set_option maxRecDepth 20000 in
theorem ctX6_line (l : Launch) (G : tg_G) (A : Nat → Nat) (c : SS)  {z : Int32 × SS} (h : fX6_line c  = some z) : Mt l G yX6_line cX6_line 1 (some .int) (tg_R 2 45) [.ref (A 0)] (wC G A c) (fun v w1 => v = some (.int z.1) ∧ w1 = wC G A z.2) := by
  refine Mt_of2 (own := "TramGod") (nm := "line") rfl rfl rfl (Nat.le_of_ble_eq_true rfl) (lv := [(0, .ref (A 0))]) rfl ?_
  unfold fX6_line at h
  refine V_aload_n eX6_line_0 0 rfl ?_
  refine V_get (v := .ref (A 1)) eX6_line_1 inX6 0 rfl rfl 0 (Nat.le_of_ble_eq_true rfl) tw_207 rfl ?_
  refine V_iconst (v := (1 : Int32)) eX6_line_4 rfl ?_
  refine V_bipush (v := (6 : Int32)) eX6_line_5 rfl ?_
  obtain ⟨q1, hc1, h⟩ := Option.bind_eq_some_iff.mp h
  refine V_callVi (rest := []) eX6_line_7 (ctX1_faultOf l G A c (1 : Int32) (6 : Int32) hc1) tc_257 tw_254 tw_2 tw_255 tw_256 1 rfl rfl hdX1_faultOf rfl ⟨Nat.le_of_ble_eq_true rfl, Nat.le_of_ble_eq_true rfl⟩ rfl (Nat.le_of_ble_eq_true rfl) ⟨Nat.zero_le _, Nat.zero_le _⟩ ?_
  refine V_bipush (v := (-6 : Int32)) eX6_line_10 rfl ?_
  refine V_icmp_eq (tgt := 18) eX6_line_12 rfl (fun hb2 => ?_) (fun hb2 => ?_)
  · replace h := (if_pos hb2).symm.trans h
    refine V_aload_n eX6_line_18 0 rfl ?_
    refine V_get (v := .ref (A 3)) eX6_line_19 inX6 0 rfl rfl 1 (Nat.le_of_ble_eq_true rfl) tw_208 rfl ?_
    refine V_aload_n eX6_line_22 0 rfl ?_
    refine V_get (v := .ref (A 1)) eX6_line_23 inX6 0 rfl rfl 0 (Nat.le_of_ble_eq_true rfl) tw_207 rfl ?_
    obtain ⟨q3, hc3, h⟩ := Option.bind_eq_some_iff.mp h
    refine V_callVv (rest := []) eX6_line_26 (ctX5_startLine_1 l G A c hc3) tc_270 tw_267 tw_3 tw_268 tw_269 3 rfl rfl hdX5_startLine rfl ⟨Nat.le_of_ble_eq_true rfl, Nat.le_of_ble_eq_true rfl⟩ rfl (Nat.le_of_ble_eq_true rfl) ⟨Nat.zero_le _, Nat.zero_le _⟩ ?_
    refine V_aload_n eX6_line_29 0 rfl ?_
    refine V_get (v := .ref (A 1)) eX6_line_30 inX6 0 rfl rfl 0 (Nat.le_of_ble_eq_true rfl) tw_207 rfl ?_
    refine V_iconst (v := (0 : Int32)) eX6_line_33 rfl ?_
    refine V_put (w' := wC G A (sF q3 0 (0 : Int32))) eX6_line_34 inX1 tyX1 tyX1_ok nmX1 1 rfl rfl 1 (Nat.le_of_ble_eq_true rfl) tw_28 rfl rfl rfl rfl (Nat.le_of_ble_eq_true rfl) rfl ?_
    refine V_aload_n eX6_line_37 0 rfl ?_
    refine V_get (v := .ref (A 3)) eX6_line_38 inX6 0 rfl rfl 1 (Nat.le_of_ble_eq_true rfl) tw_208 rfl ?_
    refine V_get (v := .int (q3.1 1)) eX6_line_41 inX5 3 rfl rfl 0 (Nat.le_of_ble_eq_true rfl) tw_44 rfl ?_
    obtain rfl := Option.some.inj h
    exact V_ret eX6_line_44 rfl ⟨rfl, rfl⟩
  · replace h := (if_neg hb2).symm.trans h
    refine V_bipush (v := (-5 : Int32)) eX6_line_15 rfl ?_
    obtain rfl := Option.some.inj h
    exact V_ret eX6_line_17 rfl ⟨rfl, rfl⟩
theorem hdX5_isStop : yX5_isStop.cls ≠ "java/lang/invoke/MethodHandle" ∧ yX5_isStop.cls ≠ "java/lang/invoke/VarHandle" ∧ (parseMethodDescriptor yX5_isStop.desc).map (fun d => d.parameters.length) = some 1 := by decide +kernel
theorem eX5_isStop_0 : Dc cX5_isStop 0 (.iload_n 1) 1 1 := ⟨by decide +kernel, rfl⟩
theorem eX5_isStop_1 : Dc cX5_isStop 1 (.iconst 0) 1 2 := ⟨by decide +kernel, rfl⟩
theorem eX5_isStop_2 : Dc cX5_isStop 2 (.aload_n 0) 1 3 := ⟨by decide +kernel, rfl⟩
theorem eX5_isStop_3 : Dc cX5_isStop 3 (.getfield 9) 3 6 := ⟨by decide +kernel, rfl⟩
theorem eX5_isStop_6 : Dc cX5_isStop 6 (.iconst 1) 1 7 := ⟨by decide +kernel, rfl⟩
theorem eX5_isStop_7 : Dc cX5_isStop 7 (.isub) 1 8 := ⟨by decide +kernel, rfl⟩
theorem eX5_isStop_8 : Dc cX5_isStop 8 (.invokestatic 85) 3 11 := ⟨by decide +kernel, rfl⟩
theorem eX5_isStop_11 : Dc cX5_isStop 11 (.ireturn) 1 12 := ⟨by decide +kernel, rfl⟩
def fX5_isStop (c : SS) (p1 : Int32) : Int32 := (fX6_within p1 (0 : Int32) ((c.1 1) - (1 : Int32)))
set_option maxRecDepth 20000 in
theorem ctX5_isStop (l : Launch) (G : tg_G) (A : Nat → Nat) (c : SS) (p1 : Int32) {z : Int32} (h : fX5_isStop c p1 = z) : Mt l G yX5_isStop cX5_isStop 2 (some .boolean) (tg_R 1 22) [.ref (A 3), .int p1] (wC G A c) (fun v w1 => v = some (.int z) ∧ w1 = wC G A c) := by
  refine Mt_of2 (own := "TramGod$World") (nm := "isStop") rfl rfl rfl (Nat.le_of_ble_eq_true rfl) (lv := [(0, .ref (A 3)), (1, .int p1)]) rfl ?_
  unfold fX5_isStop at h
  refine V_iload_n eX5_isStop_0 1 rfl ?_
  refine V_iconst (v := (0 : Int32)) eX5_isStop_1 rfl ?_
  refine V_aload_n eX5_isStop_2 0 rfl ?_
  refine V_get (v := .int (c.1 1)) eX5_isStop_3 inX5 3 rfl rfl 0 (Nat.le_of_ble_eq_true rfl) tw_42 rfl ?_
  refine V_iconst (v := (1 : Int32)) eX5_isStop_6 rfl ?_
  refine V_isub eX5_isStop_7 ?_
  refine V_callSNi (rest := []) eX5_isStop_8 (ctX6_within l G _ p1 (0 : Int32) ((c.1 1) - (1 : Int32)) rfl) tc_241 (List.mem_of_getElem? (i := 3) rfl) tw_1 tw_240 hdX6_within rfl ⟨Nat.le_of_ble_eq_true rfl, Nat.le_of_ble_eq_true rfl⟩ rfl (Nat.le_of_ble_eq_true rfl) ⟨Nat.zero_le _, Nat.zero_le _⟩ ?_
  subst h
  exact V_zret eX5_isStop_11 rfl (bzX6_within p1 (0 : Int32) ((c.1 1) - (1 : Int32))) ⟨rfl, rfl⟩
theorem bzX5_isStop (c : SS) (p1 : Int32) : narrow .boolean (.int (fX5_isStop c p1)) = .int (fX5_isStop c p1) := by
  unfold fX5_isStop
  repeat' split
  all_goals first | rfl | exact (bzX6_within p1 (0 : Int32) ((c.1 1) - (1 : Int32)))
theorem hdX6_close : yX6_close.cls ≠ "java/lang/invoke/MethodHandle" ∧ yX6_close.cls ≠ "java/lang/invoke/VarHandle" ∧ (parseMethodDescriptor yX6_close.desc).map (fun d => d.parameters.length) = some 2 := by decide +kernel
theorem eX6_close_0 : Dc cX6_close 0 (.aload_n 0) 1 1 := ⟨by decide +kernel, rfl⟩
theorem eX6_close_1 : Dc cX6_close 1 (.getfield 19) 3 4 := ⟨by decide +kernel, rfl⟩
theorem eX6_close_4 : Dc cX6_close 4 (.iload_n 1) 1 5 := ⟨by decide +kernel, rfl⟩
theorem eX6_close_5 : Dc cX6_close 5 (.invokevirtual 91) 3 8 := ⟨by decide +kernel, rfl⟩
theorem eX6_close_8 : Dc cX6_close 8 (.ifCond .ne 5) 3 11 := ⟨by decide +kernel, rfl⟩
theorem eX6_close_11 : Dc cX6_close 11 (.iconst (-1)) 1 12 := ⟨by decide +kernel, rfl⟩
theorem eX6_close_12 : Dc cX6_close 12 (.ireturn) 1 13 := ⟨by decide +kernel, rfl⟩
theorem eX6_close_13 : Dc cX6_close 13 (.iconst 1) 1 14 := ⟨by decide +kernel, rfl⟩
theorem eX6_close_14 : Dc cX6_close 14 (.iload_n 1) 1 15 := ⟨by decide +kernel, rfl⟩
theorem eX6_close_15 : Dc cX6_close 15 (.ishl) 1 16 := ⟨by decide +kernel, rfl⟩
theorem eX6_close_16 : Dc cX6_close 16 (.istore_n 3) 1 17 := ⟨by decide +kernel, rfl⟩
theorem eX6_close_17 : Dc cX6_close 17 (.aload_n 0) 1 18 := ⟨by decide +kernel, rfl⟩
theorem eX6_close_18 : Dc cX6_close 18 (.getfield 19) 3 21 := ⟨by decide +kernel, rfl⟩
theorem eX6_close_21 : Dc cX6_close 21 (.iload_n 2) 1 22 := ⟨by decide +kernel, rfl⟩
theorem eX6_close_22 : Dc cX6_close 22 (.ifCond .eq 15) 3 25 := ⟨by decide +kernel, rfl⟩
theorem eX6_close_25 : Dc cX6_close 25 (.aload_n 0) 1 26 := ⟨by decide +kernel, rfl⟩
theorem eX6_close_26 : Dc cX6_close 26 (.getfield 19) 3 29 := ⟨by decide +kernel, rfl⟩
theorem eX6_close_29 : Dc cX6_close 29 (.getfield 94) 3 32 := ⟨by decide +kernel, rfl⟩
theorem eX6_close_32 : Dc cX6_close 32 (.iload_n 3) 1 33 := ⟨by decide +kernel, rfl⟩
theorem eX6_close_33 : Dc cX6_close 33 (.ior) 1 34 := ⟨by decide +kernel, rfl⟩
theorem eX6_close_34 : Dc cX6_close 34 (.goto 14) 3 37 := ⟨by decide +kernel, rfl⟩
theorem eX6_close_37 : Dc cX6_close 37 (.aload_n 0) 1 38 := ⟨by decide +kernel, rfl⟩
theorem eX6_close_38 : Dc cX6_close 38 (.getfield 19) 3 41 := ⟨by decide +kernel, rfl⟩
theorem eX6_close_41 : Dc cX6_close 41 (.getfield 94) 3 44 := ⟨by decide +kernel, rfl⟩
theorem eX6_close_44 : Dc cX6_close 44 (.iload_n 3) 1 45 := ⟨by decide +kernel, rfl⟩
theorem eX6_close_45 : Dc cX6_close 45 (.iconst (-1)) 1 46 := ⟨by decide +kernel, rfl⟩
theorem eX6_close_46 : Dc cX6_close 46 (.ixor) 1 47 := ⟨by decide +kernel, rfl⟩
theorem eX6_close_47 : Dc cX6_close 47 (.iand) 1 48 := ⟨by decide +kernel, rfl⟩
theorem eX6_close_48 : Dc cX6_close 48 (.putfield 94) 3 51 := ⟨by decide +kernel, rfl⟩
theorem eX6_close_51 : Dc cX6_close 51 (.aload_n 0) 1 52 := ⟨by decide +kernel, rfl⟩
theorem eX6_close_52 : Dc cX6_close 52 (.getfield 19) 3 55 := ⟨by decide +kernel, rfl⟩
theorem eX6_close_55 : Dc cX6_close 55 (.getfield 94) 3 58 := ⟨by decide +kernel, rfl⟩
theorem eX6_close_58 : Dc cX6_close 58 (.ireturn) 1 59 := ⟨by decide +kernel, rfl⟩
def fX6_close (c : SS) (p1 : Int32) (p2 : Int32) : Int32 × SS := if (fX5_isStop c p1) = (0 : Int32) then ((-1 : Int32), c) else jn (fun (x2 : Int32) => (x2, (sF c 2 x2))) (fun j48 => if p2 = (0 : Int32) then j48 ((c.1 2) &&& (((1 : Int32) <<< (p1 &&& 31)) ^^^ (-1 : Int32))) else j48 ((c.1 2) ||| ((1 : Int32) <<< (p1 &&& 31))))
set_option maxRecDepth 20000 in
theorem ctX6_close (l : Launch) (G : tg_G) (A : Nat → Nat) (c : SS) (p1 : Int32) (p2 : Int32) {z : Int32 × SS} (h : fX6_close c p1 p2 = z) : Mt l G yX6_close cX6_close 4 (some .int) (tg_R 2 43) [.ref (A 0), .int p1, .int p2] (wC G A c) (fun v w1 => v = some (.int z.1) ∧ w1 = wC G A z.2) := by
  refine Mt_of2 (own := "TramGod") (nm := "close") rfl rfl rfl (Nat.le_of_ble_eq_true rfl) (lv := [(0, .ref (A 0)), (1, .int p1), (2, .int p2)]) rfl ?_
  unfold fX6_close at h
  refine V_aload_n eX6_close_0 0 rfl ?_
  refine V_get (v := .ref (A 3)) eX6_close_1 inX6 0 rfl rfl 1 (Nat.le_of_ble_eq_true rfl) tw_208 rfl ?_
  refine V_iload_n eX6_close_4 1 rfl ?_
  refine V_callVi (rest := []) eX6_close_5 (ctX5_isStop l G A c p1 rfl) tc_289 tw_286 tw_3 tw_287 tw_288 3 rfl rfl hdX5_isStop rfl ⟨Nat.le_of_ble_eq_true rfl, Nat.le_of_ble_eq_true rfl⟩ rfl (Nat.le_of_ble_eq_true rfl) ⟨Nat.zero_le _, Nat.zero_le _⟩ ?_
  refine V_if_ne (tgt := 13) eX6_close_8 rfl (fun hb1 => ?_) (fun hb1 => ?_)
  · replace h := (if_neg hb1).symm.trans h
    refine V_iconst (v := (1 : Int32)) eX6_close_13 rfl ?_
    refine V_iload_n eX6_close_14 1 rfl ?_
    refine V_ishl eX6_close_15 ?_
    refine V_istore_n (lv' := [(3, .int ((1 : Int32) <<< (p1 &&& 31))), (0, .ref (A 0)), (1, .int p1), (2, .int p2)]) eX6_close_16 (Nat.le_of_ble_eq_true rfl) rfl ?_
    refine V_aload_n eX6_close_17 1 rfl ?_
    refine V_get (v := .ref (A 3)) eX6_close_18 inX6 0 rfl rfl 1 (Nat.le_of_ble_eq_true rfl) tw_208 rfl ?_
    refine V_iload_n eX6_close_21 3 rfl ?_
    refine jn_elim h (fun j => ∀ (x2 : Int32), j x2 = z → V l G (tg_Zm G (fun v w1 => v = some (.int z.1) ∧ w1 = wC G A z.2) 0 0) tg_E0 (tg_R 2 43) "TramGod" "close" cX6_close 4 (some .int) 48 [(0, .ref (A 0))] [.int x2, .ref (A 3)] (wC G A c) 0 0) ?_ (fun j48 hj48 h => ?_)
    · intro x2 h
      refine V_put (w' := wC G A (sF c 2 x2)) eX6_close_48 inX5 tyX5 tyX5_ok nmX5 3 rfl rfl 1 (Nat.le_of_ble_eq_true rfl) tw_47 rfl rfl rfl rfl (Nat.le_of_ble_eq_true rfl) rfl ?_
      refine V_aload_n eX6_close_51 0 rfl ?_
      refine V_get (v := .ref (A 3)) eX6_close_52 inX6 0 rfl rfl 1 (Nat.le_of_ble_eq_true rfl) tw_208 rfl ?_
      refine V_get (v := .int x2) eX6_close_55 inX5 3 rfl rfl 1 (Nat.le_of_ble_eq_true rfl) tw_47 rfl ?_
      subst h
      exact V_ret eX6_close_58 rfl ⟨rfl, rfl⟩
    refine V_if_eq (tgt := 37) eX6_close_22 rfl (fun hb3 => ?_) (fun hb3 => ?_)
    · replace h := (if_pos hb3).symm.trans h
      refine V_aload_n eX6_close_37 1 rfl ?_
      refine V_get (v := .ref (A 3)) eX6_close_38 inX6 0 rfl rfl 1 (Nat.le_of_ble_eq_true rfl) tw_208 rfl ?_
      refine V_get (v := .int (c.1 2)) eX6_close_41 inX5 3 rfl rfl 1 (Nat.le_of_ble_eq_true rfl) tw_47 rfl ?_
      refine V_iload_n eX6_close_44 0 rfl ?_
      refine V_iconst (v := (-1 : Int32)) eX6_close_45 rfl ?_
      refine V_ixor eX6_close_46 ?_
      refine V_iand eX6_close_47 ?_
      refine V_lv (lv' := [(0, .ref (A 0))]) [1] rfl ?_
      exact hj48 ((c.1 2) &&& (((1 : Int32) <<< (p1 &&& 31)) ^^^ (-1 : Int32))) h
    · replace h := (if_neg hb3).symm.trans h
      refine V_aload_n eX6_close_25 1 rfl ?_
      refine V_get (v := .ref (A 3)) eX6_close_26 inX6 0 rfl rfl 1 (Nat.le_of_ble_eq_true rfl) tw_208 rfl ?_
      refine V_get (v := .int (c.1 2)) eX6_close_29 inX5 3 rfl rfl 1 (Nat.le_of_ble_eq_true rfl) tw_47 rfl ?_
      refine V_iload_n eX6_close_32 0 rfl ?_
      refine V_ior eX6_close_33 ?_
      refine V_goto (tgt := 48) eX6_close_34 rfl ?_
      refine V_lv (lv' := [(0, .ref (A 0))]) [1] rfl ?_
      exact hj48 ((c.1 2) ||| ((1 : Int32) <<< (p1 &&& 31))) h
  · replace h := (if_pos hb1).symm.trans h
    refine V_iconst (v := (-1 : Int32)) eX6_close_11 rfl ?_
    subst h
    exact V_ret eX6_close_12 rfl ⟨rfl, rfl⟩
theorem hdX6_isGood : yX6_isGood.cls ≠ "java/lang/invoke/MethodHandle" ∧ yX6_isGood.cls ≠ "java/lang/invoke/VarHandle" ∧ (parseMethodDescriptor yX6_isGood.desc).map (fun d => d.parameters.length) = some 1 := by decide +kernel
theorem eX6_isGood_0 : Dc cX6_isGood 0 (.iload_n 0) 1 1 := ⟨by decide +kernel, rfl⟩
theorem eX6_isGood_1 : Dc cX6_isGood 1 (.bipush (-9)) 2 3 := ⟨by decide +kernel, rfl⟩
theorem eX6_isGood_3 : Dc cX6_isGood 3 (.bipush 9) 2 5 := ⟨by decide +kernel, rfl⟩
theorem eX6_isGood_5 : Dc cX6_isGood 5 (.invokestatic 68) 3 8 := ⟨by decide +kernel, rfl⟩
theorem eX6_isGood_8 : Dc cX6_isGood 8 (.ireturn) 1 9 := ⟨by decide +kernel, rfl⟩
def fX6_isGood (p0 : Int32) : Int32 := (fX6_within p0 (-9 : Int32) (9 : Int32))
set_option maxRecDepth 20000 in
theorem ctX6_isGood (l : Launch) (G : tg_G) (w : va_W) (p0 : Int32) {z : Int32} (h : fX6_isGood p0 = z) : Mt l G yX6_isGood cX6_isGood 1 (some .boolean) (tg_R 1 22) [.int p0] (w) (fun v w1 => v = some (.int z) ∧ w1 = w) := by
  refine Mt_of2 (own := "TramGod") (nm := "isGood") rfl rfl rfl (Nat.le_of_ble_eq_true rfl) (lv := [(0, .int p0)]) rfl ?_
  unfold fX6_isGood at h
  refine V_iload_n eX6_isGood_0 0 rfl ?_
  refine V_bipush (v := (-9 : Int32)) eX6_isGood_1 rfl ?_
  refine V_bipush (v := (9 : Int32)) eX6_isGood_3 rfl ?_
  refine V_callSi (rest := []) eX6_isGood_5 (ctX6_within l G _ p0 (-9 : Int32) (9 : Int32) rfl) tc_241 tw_239 tw_1 tw_240 hdX6_within rfl ⟨Nat.le_of_ble_eq_true rfl, Nat.le_of_ble_eq_true rfl⟩ rfl (Nat.le_of_ble_eq_true rfl) ⟨Nat.zero_le _, Nat.zero_le _⟩ ?_
  subst h
  exact V_zret eX6_isGood_8 rfl (bzX6_within p0 (-9 : Int32) (9 : Int32)) ⟨rfl, rfl⟩
theorem bzX6_isGood (p0 : Int32) : narrow .boolean (.int (fX6_isGood p0)) = .int (fX6_isGood p0) := by
  unfold fX6_isGood
  repeat' split
  all_goals first | rfl | exact (bzX6_within p0 (-9 : Int32) (9 : Int32))
theorem hdJ6_bitCount_0f7a4 : yJ6_bitCount_0f7a4.cls ≠ "java/lang/invoke/MethodHandle" ∧ yJ6_bitCount_0f7a4.cls ≠ "java/lang/invoke/VarHandle" ∧ (parseMethodDescriptor yJ6_bitCount_0f7a4.desc).map (fun d => d.parameters.length) = some 1 := by decide +kernel
theorem eJ6_bitCount_0f7a4_0 : Dc cJ6_bitCount_0f7a4 0 (.iload_n 0) 1 1 := ⟨by decide +kernel, rfl⟩
theorem eJ6_bitCount_0f7a4_1 : Dc cJ6_bitCount_0f7a4 1 (.iload_n 0) 1 2 := ⟨by decide +kernel, rfl⟩
theorem eJ6_bitCount_0f7a4_2 : Dc cJ6_bitCount_0f7a4 2 (.iconst 1) 1 3 := ⟨by decide +kernel, rfl⟩
theorem eJ6_bitCount_0f7a4_3 : Dc cJ6_bitCount_0f7a4 3 (.iushr) 1 4 := ⟨by decide +kernel, rfl⟩
theorem eJ6_bitCount_0f7a4_4 : Dc cJ6_bitCount_0f7a4 4 (.ldc_w 265) 3 7 := ⟨by decide +kernel, rfl⟩
theorem eJ6_bitCount_0f7a4_7 : Dc cJ6_bitCount_0f7a4 7 (.iand) 1 8 := ⟨by decide +kernel, rfl⟩
theorem eJ6_bitCount_0f7a4_8 : Dc cJ6_bitCount_0f7a4 8 (.isub) 1 9 := ⟨by decide +kernel, rfl⟩
theorem eJ6_bitCount_0f7a4_9 : Dc cJ6_bitCount_0f7a4 9 (.istore_n 0) 1 10 := ⟨by decide +kernel, rfl⟩
theorem eJ6_bitCount_0f7a4_10 : Dc cJ6_bitCount_0f7a4 10 (.iload_n 0) 1 11 := ⟨by decide +kernel, rfl⟩
theorem eJ6_bitCount_0f7a4_11 : Dc cJ6_bitCount_0f7a4 11 (.ldc_w 266) 3 14 := ⟨by decide +kernel, rfl⟩
theorem eJ6_bitCount_0f7a4_14 : Dc cJ6_bitCount_0f7a4 14 (.iand) 1 15 := ⟨by decide +kernel, rfl⟩
theorem eJ6_bitCount_0f7a4_15 : Dc cJ6_bitCount_0f7a4 15 (.iload_n 0) 1 16 := ⟨by decide +kernel, rfl⟩
theorem eJ6_bitCount_0f7a4_16 : Dc cJ6_bitCount_0f7a4 16 (.iconst 2) 1 17 := ⟨by decide +kernel, rfl⟩
theorem eJ6_bitCount_0f7a4_17 : Dc cJ6_bitCount_0f7a4 17 (.iushr) 1 18 := ⟨by decide +kernel, rfl⟩
theorem eJ6_bitCount_0f7a4_18 : Dc cJ6_bitCount_0f7a4 18 (.ldc_w 266) 3 21 := ⟨by decide +kernel, rfl⟩
theorem eJ6_bitCount_0f7a4_21 : Dc cJ6_bitCount_0f7a4 21 (.iand) 1 22 := ⟨by decide +kernel, rfl⟩
theorem eJ6_bitCount_0f7a4_22 : Dc cJ6_bitCount_0f7a4 22 (.iadd) 1 23 := ⟨by decide +kernel, rfl⟩
theorem eJ6_bitCount_0f7a4_23 : Dc cJ6_bitCount_0f7a4 23 (.istore_n 0) 1 24 := ⟨by decide +kernel, rfl⟩
theorem eJ6_bitCount_0f7a4_24 : Dc cJ6_bitCount_0f7a4 24 (.iload_n 0) 1 25 := ⟨by decide +kernel, rfl⟩
theorem eJ6_bitCount_0f7a4_25 : Dc cJ6_bitCount_0f7a4 25 (.iload_n 0) 1 26 := ⟨by decide +kernel, rfl⟩
theorem eJ6_bitCount_0f7a4_26 : Dc cJ6_bitCount_0f7a4 26 (.iconst 4) 1 27 := ⟨by decide +kernel, rfl⟩
theorem eJ6_bitCount_0f7a4_27 : Dc cJ6_bitCount_0f7a4 27 (.iushr) 1 28 := ⟨by decide +kernel, rfl⟩
theorem eJ6_bitCount_0f7a4_28 : Dc cJ6_bitCount_0f7a4 28 (.iadd) 1 29 := ⟨by decide +kernel, rfl⟩
theorem eJ6_bitCount_0f7a4_29 : Dc cJ6_bitCount_0f7a4 29 (.ldc_w 267) 3 32 := ⟨by decide +kernel, rfl⟩
theorem eJ6_bitCount_0f7a4_32 : Dc cJ6_bitCount_0f7a4 32 (.iand) 1 33 := ⟨by decide +kernel, rfl⟩
theorem eJ6_bitCount_0f7a4_33 : Dc cJ6_bitCount_0f7a4 33 (.istore_n 0) 1 34 := ⟨by decide +kernel, rfl⟩
theorem eJ6_bitCount_0f7a4_34 : Dc cJ6_bitCount_0f7a4 34 (.iload_n 0) 1 35 := ⟨by decide +kernel, rfl⟩
theorem eJ6_bitCount_0f7a4_35 : Dc cJ6_bitCount_0f7a4 35 (.iload_n 0) 1 36 := ⟨by decide +kernel, rfl⟩
theorem eJ6_bitCount_0f7a4_36 : Dc cJ6_bitCount_0f7a4 36 (.bipush 8) 2 38 := ⟨by decide +kernel, rfl⟩
theorem eJ6_bitCount_0f7a4_38 : Dc cJ6_bitCount_0f7a4 38 (.iushr) 1 39 := ⟨by decide +kernel, rfl⟩
theorem eJ6_bitCount_0f7a4_39 : Dc cJ6_bitCount_0f7a4 39 (.iadd) 1 40 := ⟨by decide +kernel, rfl⟩
theorem eJ6_bitCount_0f7a4_40 : Dc cJ6_bitCount_0f7a4 40 (.istore_n 0) 1 41 := ⟨by decide +kernel, rfl⟩
theorem eJ6_bitCount_0f7a4_41 : Dc cJ6_bitCount_0f7a4 41 (.iload_n 0) 1 42 := ⟨by decide +kernel, rfl⟩
theorem eJ6_bitCount_0f7a4_42 : Dc cJ6_bitCount_0f7a4 42 (.iload_n 0) 1 43 := ⟨by decide +kernel, rfl⟩
theorem eJ6_bitCount_0f7a4_43 : Dc cJ6_bitCount_0f7a4 43 (.bipush 16) 2 45 := ⟨by decide +kernel, rfl⟩
theorem eJ6_bitCount_0f7a4_45 : Dc cJ6_bitCount_0f7a4 45 (.iushr) 1 46 := ⟨by decide +kernel, rfl⟩
theorem eJ6_bitCount_0f7a4_46 : Dc cJ6_bitCount_0f7a4 46 (.iadd) 1 47 := ⟨by decide +kernel, rfl⟩
theorem eJ6_bitCount_0f7a4_47 : Dc cJ6_bitCount_0f7a4 47 (.istore_n 0) 1 48 := ⟨by decide +kernel, rfl⟩
theorem eJ6_bitCount_0f7a4_48 : Dc cJ6_bitCount_0f7a4 48 (.iload_n 0) 1 49 := ⟨by decide +kernel, rfl⟩
theorem eJ6_bitCount_0f7a4_49 : Dc cJ6_bitCount_0f7a4 49 (.bipush 63) 2 51 := ⟨by decide +kernel, rfl⟩
theorem eJ6_bitCount_0f7a4_51 : Dc cJ6_bitCount_0f7a4 51 (.iand) 1 52 := ⟨by decide +kernel, rfl⟩
theorem eJ6_bitCount_0f7a4_52 : Dc cJ6_bitCount_0f7a4 52 (.ireturn) 1 53 := ⟨by decide +kernel, rfl⟩
def fJ6_bitCount_0f7a4 (p0 : Int32) : Int32 := ((((((((p0 - ((ush p0 (1 : Int32)) &&& (1431655765 : Int32))) &&& (858993459 : Int32)) + ((ush (p0 - ((ush p0 (1 : Int32)) &&& (1431655765 : Int32))) (2 : Int32)) &&& (858993459 : Int32))) + (ush (((p0 - ((ush p0 (1 : Int32)) &&& (1431655765 : Int32))) &&& (858993459 : Int32)) + ((ush (p0 - ((ush p0 (1 : Int32)) &&& (1431655765 : Int32))) (2 : Int32)) &&& (858993459 : Int32))) (4 : Int32))) &&& (252645135 : Int32)) + (ush (((((p0 - ((ush p0 (1 : Int32)) &&& (1431655765 : Int32))) &&& (858993459 : Int32)) + ((ush (p0 - ((ush p0 (1 : Int32)) &&& (1431655765 : Int32))) (2 : Int32)) &&& (858993459 : Int32))) + (ush (((p0 - ((ush p0 (1 : Int32)) &&& (1431655765 : Int32))) &&& (858993459 : Int32)) + ((ush (p0 - ((ush p0 (1 : Int32)) &&& (1431655765 : Int32))) (2 : Int32)) &&& (858993459 : Int32))) (4 : Int32))) &&& (252645135 : Int32)) (8 : Int32))) + (ush ((((((p0 - ((ush p0 (1 : Int32)) &&& (1431655765 : Int32))) &&& (858993459 : Int32)) + ((ush (p0 - ((ush p0 (1 : Int32)) &&& (1431655765 : Int32))) (2 : Int32)) &&& (858993459 : Int32))) + (ush (((p0 - ((ush p0 (1 : Int32)) &&& (1431655765 : Int32))) &&& (858993459 : Int32)) + ((ush (p0 - ((ush p0 (1 : Int32)) &&& (1431655765 : Int32))) (2 : Int32)) &&& (858993459 : Int32))) (4 : Int32))) &&& (252645135 : Int32)) + (ush (((((p0 - ((ush p0 (1 : Int32)) &&& (1431655765 : Int32))) &&& (858993459 : Int32)) + ((ush (p0 - ((ush p0 (1 : Int32)) &&& (1431655765 : Int32))) (2 : Int32)) &&& (858993459 : Int32))) + (ush (((p0 - ((ush p0 (1 : Int32)) &&& (1431655765 : Int32))) &&& (858993459 : Int32)) + ((ush (p0 - ((ush p0 (1 : Int32)) &&& (1431655765 : Int32))) (2 : Int32)) &&& (858993459 : Int32))) (4 : Int32))) &&& (252645135 : Int32)) (8 : Int32))) (16 : Int32))) &&& (63 : Int32))
set_option maxRecDepth 20000 in
theorem ctJ6_bitCount_0f7a4 (l : Launch) (G : tg_G) (w : va_W) (p0 : Int32) {z : Int32} (h : fJ6_bitCount_0f7a4 p0 = z) : Mt l G yJ6_bitCount_0f7a4 cJ6_bitCount_0f7a4 1 (some .int) (tg_R 0 0) [.int p0] (w) (fun v w1 => v = some (.int z) ∧ w1 = w) := by
  refine Mt_of2 (own := "java/lang/Integer") (nm := "bitCount") rfl rfl rfl (Nat.le_of_ble_eq_true rfl) (lv := [(0, .int p0)]) rfl ?_
  unfold fJ6_bitCount_0f7a4 at h
  refine V_iload_n eJ6_bitCount_0f7a4_0 0 rfl ?_
  refine V_iload_n eJ6_bitCount_0f7a4_1 0 rfl ?_
  refine V_iconst (v := (1 : Int32)) eJ6_bitCount_0f7a4_2 rfl ?_
  refine V_iushr eJ6_bitCount_0f7a4_3 ?_
  refine V_ldcw eJ6_bitCount_0f7a4_4 tw_301 ?_
  refine V_iand eJ6_bitCount_0f7a4_7 ?_
  refine V_isub eJ6_bitCount_0f7a4_8 ?_
  refine V_istore_n (lv' := [(0, .int (p0 - ((ush p0 (1 : Int32)) &&& (1431655765 : Int32))))]) eJ6_bitCount_0f7a4_9 (Nat.le_of_ble_eq_true rfl) rfl ?_
  refine V_iload_n eJ6_bitCount_0f7a4_10 0 rfl ?_
  refine V_ldcw eJ6_bitCount_0f7a4_11 tw_302 ?_
  refine V_iand eJ6_bitCount_0f7a4_14 ?_
  refine V_iload_n eJ6_bitCount_0f7a4_15 0 rfl ?_
  refine V_iconst (v := (2 : Int32)) eJ6_bitCount_0f7a4_16 rfl ?_
  refine V_iushr eJ6_bitCount_0f7a4_17 ?_
  refine V_ldcw eJ6_bitCount_0f7a4_18 tw_302 ?_
  refine V_iand eJ6_bitCount_0f7a4_21 ?_
  refine V_iadd eJ6_bitCount_0f7a4_22 ?_
  refine V_istore_n (lv' := [(0, .int (((p0 - ((ush p0 (1 : Int32)) &&& (1431655765 : Int32))) &&& (858993459 : Int32)) + ((ush (p0 - ((ush p0 (1 : Int32)) &&& (1431655765 : Int32))) (2 : Int32)) &&& (858993459 : Int32))))]) eJ6_bitCount_0f7a4_23 (Nat.le_of_ble_eq_true rfl) rfl ?_
  refine V_iload_n eJ6_bitCount_0f7a4_24 0 rfl ?_
  refine V_iload_n eJ6_bitCount_0f7a4_25 0 rfl ?_
  refine V_iconst (v := (4 : Int32)) eJ6_bitCount_0f7a4_26 rfl ?_
  refine V_iushr eJ6_bitCount_0f7a4_27 ?_
  refine V_iadd eJ6_bitCount_0f7a4_28 ?_
  refine V_ldcw eJ6_bitCount_0f7a4_29 tw_303 ?_
  refine V_iand eJ6_bitCount_0f7a4_32 ?_
  refine V_istore_n (lv' := [(0, .int (((((p0 - ((ush p0 (1 : Int32)) &&& (1431655765 : Int32))) &&& (858993459 : Int32)) + ((ush (p0 - ((ush p0 (1 : Int32)) &&& (1431655765 : Int32))) (2 : Int32)) &&& (858993459 : Int32))) + (ush (((p0 - ((ush p0 (1 : Int32)) &&& (1431655765 : Int32))) &&& (858993459 : Int32)) + ((ush (p0 - ((ush p0 (1 : Int32)) &&& (1431655765 : Int32))) (2 : Int32)) &&& (858993459 : Int32))) (4 : Int32))) &&& (252645135 : Int32)))]) eJ6_bitCount_0f7a4_33 (Nat.le_of_ble_eq_true rfl) rfl ?_
  refine V_iload_n eJ6_bitCount_0f7a4_34 0 rfl ?_
  refine V_iload_n eJ6_bitCount_0f7a4_35 0 rfl ?_
  refine V_bipush (v := (8 : Int32)) eJ6_bitCount_0f7a4_36 rfl ?_
  refine V_iushr eJ6_bitCount_0f7a4_38 ?_
  refine V_iadd eJ6_bitCount_0f7a4_39 ?_
  refine V_istore_n (lv' := [(0, .int ((((((p0 - ((ush p0 (1 : Int32)) &&& (1431655765 : Int32))) &&& (858993459 : Int32)) + ((ush (p0 - ((ush p0 (1 : Int32)) &&& (1431655765 : Int32))) (2 : Int32)) &&& (858993459 : Int32))) + (ush (((p0 - ((ush p0 (1 : Int32)) &&& (1431655765 : Int32))) &&& (858993459 : Int32)) + ((ush (p0 - ((ush p0 (1 : Int32)) &&& (1431655765 : Int32))) (2 : Int32)) &&& (858993459 : Int32))) (4 : Int32))) &&& (252645135 : Int32)) + (ush (((((p0 - ((ush p0 (1 : Int32)) &&& (1431655765 : Int32))) &&& (858993459 : Int32)) + ((ush (p0 - ((ush p0 (1 : Int32)) &&& (1431655765 : Int32))) (2 : Int32)) &&& (858993459 : Int32))) + (ush (((p0 - ((ush p0 (1 : Int32)) &&& (1431655765 : Int32))) &&& (858993459 : Int32)) + ((ush (p0 - ((ush p0 (1 : Int32)) &&& (1431655765 : Int32))) (2 : Int32)) &&& (858993459 : Int32))) (4 : Int32))) &&& (252645135 : Int32)) (8 : Int32))))]) eJ6_bitCount_0f7a4_40 (Nat.le_of_ble_eq_true rfl) rfl ?_
  refine V_iload_n eJ6_bitCount_0f7a4_41 0 rfl ?_
  refine V_iload_n eJ6_bitCount_0f7a4_42 0 rfl ?_
  refine V_bipush (v := (16 : Int32)) eJ6_bitCount_0f7a4_43 rfl ?_
  refine V_iushr eJ6_bitCount_0f7a4_45 ?_
  refine V_iadd eJ6_bitCount_0f7a4_46 ?_
  refine V_istore_n (lv' := [(0, .int (((((((p0 - ((ush p0 (1 : Int32)) &&& (1431655765 : Int32))) &&& (858993459 : Int32)) + ((ush (p0 - ((ush p0 (1 : Int32)) &&& (1431655765 : Int32))) (2 : Int32)) &&& (858993459 : Int32))) + (ush (((p0 - ((ush p0 (1 : Int32)) &&& (1431655765 : Int32))) &&& (858993459 : Int32)) + ((ush (p0 - ((ush p0 (1 : Int32)) &&& (1431655765 : Int32))) (2 : Int32)) &&& (858993459 : Int32))) (4 : Int32))) &&& (252645135 : Int32)) + (ush (((((p0 - ((ush p0 (1 : Int32)) &&& (1431655765 : Int32))) &&& (858993459 : Int32)) + ((ush (p0 - ((ush p0 (1 : Int32)) &&& (1431655765 : Int32))) (2 : Int32)) &&& (858993459 : Int32))) + (ush (((p0 - ((ush p0 (1 : Int32)) &&& (1431655765 : Int32))) &&& (858993459 : Int32)) + ((ush (p0 - ((ush p0 (1 : Int32)) &&& (1431655765 : Int32))) (2 : Int32)) &&& (858993459 : Int32))) (4 : Int32))) &&& (252645135 : Int32)) (8 : Int32))) + (ush ((((((p0 - ((ush p0 (1 : Int32)) &&& (1431655765 : Int32))) &&& (858993459 : Int32)) + ((ush (p0 - ((ush p0 (1 : Int32)) &&& (1431655765 : Int32))) (2 : Int32)) &&& (858993459 : Int32))) + (ush (((p0 - ((ush p0 (1 : Int32)) &&& (1431655765 : Int32))) &&& (858993459 : Int32)) + ((ush (p0 - ((ush p0 (1 : Int32)) &&& (1431655765 : Int32))) (2 : Int32)) &&& (858993459 : Int32))) (4 : Int32))) &&& (252645135 : Int32)) + (ush (((((p0 - ((ush p0 (1 : Int32)) &&& (1431655765 : Int32))) &&& (858993459 : Int32)) + ((ush (p0 - ((ush p0 (1 : Int32)) &&& (1431655765 : Int32))) (2 : Int32)) &&& (858993459 : Int32))) + (ush (((p0 - ((ush p0 (1 : Int32)) &&& (1431655765 : Int32))) &&& (858993459 : Int32)) + ((ush (p0 - ((ush p0 (1 : Int32)) &&& (1431655765 : Int32))) (2 : Int32)) &&& (858993459 : Int32))) (4 : Int32))) &&& (252645135 : Int32)) (8 : Int32))) (16 : Int32))))]) eJ6_bitCount_0f7a4_47 (Nat.le_of_ble_eq_true rfl) rfl ?_
  refine V_iload_n eJ6_bitCount_0f7a4_48 0 rfl ?_
  refine V_bipush (v := (63 : Int32)) eJ6_bitCount_0f7a4_49 rfl ?_
  refine V_iand eJ6_bitCount_0f7a4_51 ?_
  subst h
  exact V_ret eJ6_bitCount_0f7a4_52 rfl ⟨rfl, rfl⟩
theorem hdX6_person : yX6_person.cls ≠ "java/lang/invoke/MethodHandle" ∧ yX6_person.cls ≠ "java/lang/invoke/VarHandle" ∧ (parseMethodDescriptor yX6_person.desc).map (fun d => d.parameters.length) = some 6 := by decide +kernel
theorem eX6_person_0 : Dc cX6_person 0 (.iload_n 1) 1 1 := ⟨by decide +kernel, rfl⟩
theorem eX6_person_1 : Dc cX6_person 1 (.iconst 0) 1 2 := ⟨by decide +kernel, rfl⟩
theorem eX6_person_2 : Dc cX6_person 2 (.bipush 7) 2 4 := ⟨by decide +kernel, rfl⟩
theorem eX6_person_4 : Dc cX6_person 4 (.invokestatic 68) 3 7 := ⟨by decide +kernel, rfl⟩
theorem eX6_person_7 : Dc cX6_person 7 (.ifCond .eq 14) 3 10 := ⟨by decide +kernel, rfl⟩
theorem eX6_person_10 : Dc cX6_person 10 (.aload_n 0) 1 11 := ⟨by decide +kernel, rfl⟩
theorem eX6_person_11 : Dc cX6_person 11 (.getfield 19) 3 14 := ⟨by decide +kernel, rfl⟩
theorem eX6_person_14 : Dc cX6_person 14 (.iload_n 2) 1 15 := ⟨by decide +kernel, rfl⟩
theorem eX6_person_15 : Dc cX6_person 15 (.invokevirtual 91) 3 18 := ⟨by decide +kernel, rfl⟩
theorem eX6_person_18 : Dc cX6_person 18 (.ifCond .ne 5) 3 21 := ⟨by decide +kernel, rfl⟩
theorem eX6_person_21 : Dc cX6_person 21 (.iconst (-1)) 1 22 := ⟨by decide +kernel, rfl⟩
theorem eX6_person_22 : Dc cX6_person 22 (.ireturn) 1 23 := ⟨by decide +kernel, rfl⟩
theorem eX6_person_23 : Dc cX6_person 23 (.iload_n 3) 1 24 := ⟨by decide +kernel, rfl⟩
theorem eX6_person_24 : Dc cX6_person 24 (.iconst 0) 1 25 := ⟨by decide +kernel, rfl⟩
theorem eX6_person_25 : Dc cX6_person 25 (.bipush 99) 2 27 := ⟨by decide +kernel, rfl⟩
theorem eX6_person_27 : Dc cX6_person 27 (.invokestatic 68) 3 30 := ⟨by decide +kernel, rfl⟩
theorem eX6_person_30 : Dc cX6_person 30 (.ifCond .eq 27) 3 33 := ⟨by decide +kernel, rfl⟩
theorem eX6_person_33 : Dc cX6_person 33 (.iload 4) 2 35 := ⟨by decide +kernel, rfl⟩
theorem eX6_person_35 : Dc cX6_person 35 (.invokestatic 97) 3 38 := ⟨by decide +kernel, rfl⟩
theorem eX6_person_38 : Dc cX6_person 38 (.ifCond .eq 19) 3 41 := ⟨by decide +kernel, rfl⟩
theorem eX6_person_41 : Dc cX6_person 41 (.iload 5) 2 43 := ⟨by decide +kernel, rfl⟩
theorem eX6_person_43 : Dc cX6_person 43 (.invokestatic 97) 3 46 := ⟨by decide +kernel, rfl⟩
theorem eX6_person_46 : Dc cX6_person 46 (.ifCond .eq 11) 3 49 := ⟨by decide +kernel, rfl⟩
theorem eX6_person_49 : Dc cX6_person 49 (.iload 6) 2 51 := ⟨by decide +kernel, rfl⟩
theorem eX6_person_51 : Dc cX6_person 51 (.invokestatic 97) 3 54 := ⟨by decide +kernel, rfl⟩
theorem eX6_person_54 : Dc cX6_person 54 (.ifCond .ne 6) 3 57 := ⟨by decide +kernel, rfl⟩
theorem eX6_person_57 : Dc cX6_person 57 (.bipush (-2)) 2 59 := ⟨by decide +kernel, rfl⟩
theorem eX6_person_59 : Dc cX6_person 59 (.ireturn) 1 60 := ⟨by decide +kernel, rfl⟩
theorem eX6_person_60 : Dc cX6_person 60 (.aload_n 0) 1 61 := ⟨by decide +kernel, rfl⟩
theorem eX6_person_61 : Dc cX6_person 61 (.getfield 19) 3 64 := ⟨by decide +kernel, rfl⟩
theorem eX6_person_64 : Dc cX6_person 64 (.dup) 1 65 := ⟨by decide +kernel, rfl⟩
theorem eX6_person_65 : Dc cX6_person 65 (.getfield 100) 3 68 := ⟨by decide +kernel, rfl⟩
theorem eX6_person_68 : Dc cX6_person 68 (.iconst 1) 1 69 := ⟨by decide +kernel, rfl⟩
theorem eX6_person_69 : Dc cX6_person 69 (.iload_n 1) 1 70 := ⟨by decide +kernel, rfl⟩
theorem eX6_person_70 : Dc cX6_person 70 (.ishl) 1 71 := ⟨by decide +kernel, rfl⟩
theorem eX6_person_71 : Dc cX6_person 71 (.ior) 1 72 := ⟨by decide +kernel, rfl⟩
theorem eX6_person_72 : Dc cX6_person 72 (.putfield 100) 3 75 := ⟨by decide +kernel, rfl⟩
theorem eX6_person_75 : Dc cX6_person 75 (.aload_n 0) 1 76 := ⟨by decide +kernel, rfl⟩
theorem eX6_person_76 : Dc cX6_person 76 (.getfield 19) 3 79 := ⟨by decide +kernel, rfl⟩
theorem eX6_person_79 : Dc cX6_person 79 (.getfield 103) 3 82 := ⟨by decide +kernel, rfl⟩
theorem eX6_person_82 : Dc cX6_person 82 (.iload_n 1) 1 83 := ⟨by decide +kernel, rfl⟩
theorem eX6_person_83 : Dc cX6_person 83 (.iload_n 2) 1 84 := ⟨by decide +kernel, rfl⟩
theorem eX6_person_84 : Dc cX6_person 84 (.iastore) 1 85 := ⟨by decide +kernel, rfl⟩
theorem eX6_person_85 : Dc cX6_person 85 (.aload_n 0) 1 86 := ⟨by decide +kernel, rfl⟩
theorem eX6_person_86 : Dc cX6_person 86 (.getfield 19) 3 89 := ⟨by decide +kernel, rfl⟩
theorem eX6_person_89 : Dc cX6_person 89 (.getfield 106) 3 92 := ⟨by decide +kernel, rfl⟩
theorem eX6_person_92 : Dc cX6_person 92 (.iload_n 1) 1 93 := ⟨by decide +kernel, rfl⟩
theorem eX6_person_93 : Dc cX6_person 93 (.iload_n 3) 1 94 := ⟨by decide +kernel, rfl⟩
theorem eX6_person_94 : Dc cX6_person 94 (.iastore) 1 95 := ⟨by decide +kernel, rfl⟩
theorem eX6_person_95 : Dc cX6_person 95 (.aload_n 0) 1 96 := ⟨by decide +kernel, rfl⟩
theorem eX6_person_96 : Dc cX6_person 96 (.getfield 19) 3 99 := ⟨by decide +kernel, rfl⟩
theorem eX6_person_99 : Dc cX6_person 99 (.getfield 109) 3 102 := ⟨by decide +kernel, rfl⟩
theorem eX6_person_102 : Dc cX6_person 102 (.iload_n 1) 1 103 := ⟨by decide +kernel, rfl⟩
theorem eX6_person_103 : Dc cX6_person 103 (.iload 4) 2 105 := ⟨by decide +kernel, rfl⟩
theorem eX6_person_105 : Dc cX6_person 105 (.iastore) 1 106 := ⟨by decide +kernel, rfl⟩
theorem eX6_person_106 : Dc cX6_person 106 (.aload_n 0) 1 107 := ⟨by decide +kernel, rfl⟩
theorem eX6_person_107 : Dc cX6_person 107 (.getfield 19) 3 110 := ⟨by decide +kernel, rfl⟩
theorem eX6_person_110 : Dc cX6_person 110 (.getfield 112) 3 113 := ⟨by decide +kernel, rfl⟩
theorem eX6_person_113 : Dc cX6_person 113 (.iload_n 1) 1 114 := ⟨by decide +kernel, rfl⟩
theorem eX6_person_114 : Dc cX6_person 114 (.iload 5) 2 116 := ⟨by decide +kernel, rfl⟩
theorem eX6_person_116 : Dc cX6_person 116 (.iastore) 1 117 := ⟨by decide +kernel, rfl⟩
theorem eX6_person_117 : Dc cX6_person 117 (.aload_n 0) 1 118 := ⟨by decide +kernel, rfl⟩
theorem eX6_person_118 : Dc cX6_person 118 (.getfield 19) 3 121 := ⟨by decide +kernel, rfl⟩
theorem eX6_person_121 : Dc cX6_person 121 (.getfield 115) 3 124 := ⟨by decide +kernel, rfl⟩
theorem eX6_person_124 : Dc cX6_person 124 (.iload_n 1) 1 125 := ⟨by decide +kernel, rfl⟩
theorem eX6_person_125 : Dc cX6_person 125 (.iload 6) 2 127 := ⟨by decide +kernel, rfl⟩
theorem eX6_person_127 : Dc cX6_person 127 (.iastore) 1 128 := ⟨by decide +kernel, rfl⟩
theorem eX6_person_128 : Dc cX6_person 128 (.aload_n 0) 1 129 := ⟨by decide +kernel, rfl⟩
theorem eX6_person_129 : Dc cX6_person 129 (.getfield 19) 3 132 := ⟨by decide +kernel, rfl⟩
theorem eX6_person_132 : Dc cX6_person 132 (.getfield 118) 3 135 := ⟨by decide +kernel, rfl⟩
theorem eX6_person_135 : Dc cX6_person 135 (.iload_n 1) 1 136 := ⟨by decide +kernel, rfl⟩
theorem eX6_person_136 : Dc cX6_person 136 (.bipush 127) 2 138 := ⟨by decide +kernel, rfl⟩
theorem eX6_person_138 : Dc cX6_person 138 (.iastore) 1 139 := ⟨by decide +kernel, rfl⟩
theorem eX6_person_139 : Dc cX6_person 139 (.aload_n 0) 1 140 := ⟨by decide +kernel, rfl⟩
theorem eX6_person_140 : Dc cX6_person 140 (.getfield 19) 3 143 := ⟨by decide +kernel, rfl⟩
theorem eX6_person_143 : Dc cX6_person 143 (.getfield 100) 3 146 := ⟨by decide +kernel, rfl⟩
theorem eX6_person_146 : Dc cX6_person 146 (.invokestatic 121) 3 149 := ⟨by decide +kernel, rfl⟩
theorem eX6_person_149 : Dc cX6_person 149 (.ireturn) 1 150 := ⟨by decide +kernel, rfl⟩
def fX6_person (c : SS) (p1 : Int32) (p2 : Int32) (p3 : Int32) (p4 : Int32) (p5 : Int32) (p6 : Int32) : Option (Int32 × SS) := if (fX6_within p1 (0 : Int32) (7 : Int32)) = (0 : Int32) then some ((-1 : Int32), c) else if (fX5_isStop c p2) = (0 : Int32) then some ((-1 : Int32), c) else if (fX6_within p3 (0 : Int32) (99 : Int32)) = (0 : Int32) then some ((-2 : Int32), c) else if (fX6_isGood p4) = (0 : Int32) then some ((-2 : Int32), c) else if (fX6_isGood p5) = (0 : Int32) then some ((-2 : Int32), c) else if (fX6_isGood p6) = (0 : Int32) then some ((-2 : Int32), c) else ckb 8 p1 (ckb 8 p1 (ckb 8 p1 (ckb 8 p1 (ckb 8 p1 (ckb 8 p1 (some ((fJ6_bitCount_0f7a4 ((c.1 5) ||| ((1 : Int32) <<< (p1 &&& 31)))), (sA (sA (sA (sA (sA (sA (sF c 5 ((c.1 5) ||| ((1 : Int32) <<< (p1 &&& 31)))) 2 (p1).toNatClampNeg p2) 3 (p1).toNatClampNeg p3) 4 (p1).toNatClampNeg p4) 5 (p1).toNatClampNeg p5) 6 (p1).toNatClampNeg p6) 7 (p1).toNatClampNeg (127 : Int32)))))))))
set_option maxRecDepth 20000 in
theorem ctX6_person (l : Launch) (G : tg_G) (A : Nat → Nat) (c : SS) (p1 : Int32) (p2 : Int32) (p3 : Int32) (p4 : Int32) (p5 : Int32) (p6 : Int32) {z : Int32 × SS} (h : fX6_person c p1 p2 p3 p4 p5 p6 = some z) : Mt l G yX6_person cX6_person 7 (some .int) (tg_R 2 43) [.ref (A 0), .int p1, .int p2, .int p3, .int p4, .int p5, .int p6] (wC G A c) (fun v w1 => v = some (.int z.1) ∧ w1 = wC G A z.2) := by
  refine Mt_of2 (own := "TramGod") (nm := "person") rfl rfl rfl (Nat.le_of_ble_eq_true rfl) (lv := [(0, .ref (A 0)), (1, .int p1), (2, .int p2), (3, .int p3), (4, .int p4), (5, .int p5), (6, .int p6)]) rfl ?_
  unfold fX6_person at h
  refine V_iload_n eX6_person_0 1 rfl ?_
  refine V_iconst (v := (0 : Int32)) eX6_person_1 rfl ?_
  refine V_bipush (v := (7 : Int32)) eX6_person_2 rfl ?_
  refine V_callSi (rest := []) eX6_person_4 (ctX6_within l G _ p1 (0 : Int32) (7 : Int32) rfl) tc_241 tw_239 tw_1 tw_240 hdX6_within rfl ⟨Nat.le_of_ble_eq_true rfl, Nat.le_of_ble_eq_true rfl⟩ rfl (Nat.le_of_ble_eq_true rfl) ⟨Nat.zero_le _, Nat.zero_le _⟩ ?_
  refine V_if_eq (tgt := 21) eX6_person_7 rfl (fun hb1 => ?_) (fun hb1 => ?_)
  · replace h := (if_pos hb1).symm.trans h
    refine V_iconst (v := (-1 : Int32)) eX6_person_21 rfl ?_
    obtain rfl := Option.some.inj h
    exact V_ret eX6_person_22 rfl ⟨rfl, rfl⟩
  · replace h := (if_neg hb1).symm.trans h
    refine V_aload_n eX6_person_10 0 rfl ?_
    refine V_get (v := .ref (A 3)) eX6_person_11 inX6 0 rfl rfl 1 (Nat.le_of_ble_eq_true rfl) tw_208 rfl ?_
    refine V_iload_n eX6_person_14 2 rfl ?_
    refine V_callVi (rest := []) eX6_person_15 (ctX5_isStop l G A c p2 rfl) tc_289 tw_286 tw_3 tw_287 tw_288 3 rfl rfl hdX5_isStop rfl ⟨Nat.le_of_ble_eq_true rfl, Nat.le_of_ble_eq_true rfl⟩ rfl (Nat.le_of_ble_eq_true rfl) ⟨Nat.zero_le _, Nat.zero_le _⟩ ?_
    refine V_if_ne (tgt := 23) eX6_person_18 rfl (fun hb2 => ?_) (fun hb2 => ?_)
    · replace h := (if_neg hb2).symm.trans h
      refine V_iload_n eX6_person_23 3 rfl ?_
      refine V_iconst (v := (0 : Int32)) eX6_person_24 rfl ?_
      refine V_bipush (v := (99 : Int32)) eX6_person_25 rfl ?_
      refine V_callSi (rest := []) eX6_person_27 (ctX6_within l G _ p3 (0 : Int32) (99 : Int32) rfl) tc_241 tw_239 tw_1 tw_240 hdX6_within rfl ⟨Nat.le_of_ble_eq_true rfl, Nat.le_of_ble_eq_true rfl⟩ rfl (Nat.le_of_ble_eq_true rfl) ⟨Nat.zero_le _, Nat.zero_le _⟩ ?_
      refine V_if_eq (tgt := 57) eX6_person_30 rfl (fun hb3 => ?_) (fun hb3 => ?_)
      · replace h := (if_pos hb3).symm.trans h
        refine V_bipush (v := (-2 : Int32)) eX6_person_57 rfl ?_
        obtain rfl := Option.some.inj h
        exact V_ret eX6_person_59 rfl ⟨rfl, rfl⟩
      · replace h := (if_neg hb3).symm.trans h
        refine V_iload eX6_person_33 4 rfl ?_
        refine V_callSi (rest := []) eX6_person_35 (ctX6_isGood l G _ p4 rfl) tc_297 tw_295 tw_1 tw_296 hdX6_isGood rfl ⟨Nat.le_of_ble_eq_true rfl, Nat.le_of_ble_eq_true rfl⟩ rfl (Nat.le_of_ble_eq_true rfl) ⟨Nat.zero_le _, Nat.zero_le _⟩ ?_
        refine V_if_eq (tgt := 57) eX6_person_38 rfl (fun hb4 => ?_) (fun hb4 => ?_)
        · replace h := (if_pos hb4).symm.trans h
          refine V_bipush (v := (-2 : Int32)) eX6_person_57 rfl ?_
          obtain rfl := Option.some.inj h
          exact V_ret eX6_person_59 rfl ⟨rfl, rfl⟩
        · replace h := (if_neg hb4).symm.trans h
          refine V_iload eX6_person_41 5 rfl ?_
          refine V_callSi (rest := []) eX6_person_43 (ctX6_isGood l G _ p5 rfl) tc_297 tw_295 tw_1 tw_296 hdX6_isGood rfl ⟨Nat.le_of_ble_eq_true rfl, Nat.le_of_ble_eq_true rfl⟩ rfl (Nat.le_of_ble_eq_true rfl) ⟨Nat.zero_le _, Nat.zero_le _⟩ ?_
          refine V_if_eq (tgt := 57) eX6_person_46 rfl (fun hb5 => ?_) (fun hb5 => ?_)
          · replace h := (if_pos hb5).symm.trans h
            refine V_bipush (v := (-2 : Int32)) eX6_person_57 rfl ?_
            obtain rfl := Option.some.inj h
            exact V_ret eX6_person_59 rfl ⟨rfl, rfl⟩
          · replace h := (if_neg hb5).symm.trans h
            refine V_iload eX6_person_49 6 rfl ?_
            refine V_callSi (rest := []) eX6_person_51 (ctX6_isGood l G _ p6 rfl) tc_297 tw_295 tw_1 tw_296 hdX6_isGood rfl ⟨Nat.le_of_ble_eq_true rfl, Nat.le_of_ble_eq_true rfl⟩ rfl (Nat.le_of_ble_eq_true rfl) ⟨Nat.zero_le _, Nat.zero_le _⟩ ?_
            refine V_if_ne (tgt := 60) eX6_person_54 rfl (fun hb6 => ?_) (fun hb6 => ?_)
            · replace h := (if_neg hb6).symm.trans h
              refine V_aload_n eX6_person_60 0 rfl ?_
              refine V_get (v := .ref (A 3)) eX6_person_61 inX6 0 rfl rfl 1 (Nat.le_of_ble_eq_true rfl) tw_208 rfl ?_
              refine V_dup eX6_person_64 rfl ?_
              refine V_get (v := .int (c.1 5)) eX6_person_65 inX5 3 rfl rfl 4 (Nat.le_of_ble_eq_true rfl) tw_55 rfl ?_
              refine V_iconst (v := (1 : Int32)) eX6_person_68 rfl ?_
              refine V_iload_n eX6_person_69 1 rfl ?_
              refine V_ishl eX6_person_70 ?_
              refine V_ior eX6_person_71 ?_
              refine V_put (w' := wC G A (sF c 5 ((c.1 5) ||| ((1 : Int32) <<< (p1 &&& 31))))) eX6_person_72 inX5 tyX5 tyX5_ok nmX5 3 rfl rfl 4 (Nat.le_of_ble_eq_true rfl) tw_55 rfl rfl rfl rfl (Nat.le_of_ble_eq_true rfl) rfl ?_
              refine V_aload_n eX6_person_75 0 rfl ?_
              refine V_get (v := .ref (A 3)) eX6_person_76 inX6 0 rfl rfl 1 (Nat.le_of_ble_eq_true rfl) tw_208 rfl ?_
              refine V_get (v := .ref (A 5)) eX6_person_79 inX5 3 rfl rfl 9 (Nat.le_of_ble_eq_true rfl) tw_67 rfl ?_
              refine V_iload_n eX6_person_82 1 rfl ?_
              refine V_iload_n eX6_person_83 2 rfl ?_
              obtain ⟨hi7, h⟩ := ckb_some h
              refine V_iast (w' := wC G A (sA (sF c 5 ((c.1 5) ||| ((1 : Int32) <<< (p1 &&& 31)))) 2 (p1).toNatClampNeg p2)) eX6_person_84 5 rfl hi7 rfl ?_
              refine V_aload_n eX6_person_85 0 rfl ?_
              refine V_get (v := .ref (A 3)) eX6_person_86 inX6 0 rfl rfl 1 (Nat.le_of_ble_eq_true rfl) tw_208 rfl ?_
              refine V_get (v := .ref (A 6)) eX6_person_89 inX5 3 rfl rfl 10 (Nat.le_of_ble_eq_true rfl) tw_70 rfl ?_
              refine V_iload_n eX6_person_92 1 rfl ?_
              refine V_iload_n eX6_person_93 3 rfl ?_
              obtain ⟨hi8, h⟩ := ckb_some h
              refine V_iast (w' := wC G A (sA (sA (sF c 5 ((c.1 5) ||| ((1 : Int32) <<< (p1 &&& 31)))) 2 (p1).toNatClampNeg p2) 3 (p1).toNatClampNeg p3)) eX6_person_94 6 rfl hi8 rfl ?_
              refine V_aload_n eX6_person_95 0 rfl ?_
              refine V_get (v := .ref (A 3)) eX6_person_96 inX6 0 rfl rfl 1 (Nat.le_of_ble_eq_true rfl) tw_208 rfl ?_
              refine V_get (v := .ref (A 7)) eX6_person_99 inX5 3 rfl rfl 11 (Nat.le_of_ble_eq_true rfl) tw_73 rfl ?_
              refine V_iload_n eX6_person_102 1 rfl ?_
              refine V_iload eX6_person_103 4 rfl ?_
              obtain ⟨hi9, h⟩ := ckb_some h
              refine V_iast (w' := wC G A (sA (sA (sA (sF c 5 ((c.1 5) ||| ((1 : Int32) <<< (p1 &&& 31)))) 2 (p1).toNatClampNeg p2) 3 (p1).toNatClampNeg p3) 4 (p1).toNatClampNeg p4)) eX6_person_105 7 rfl hi9 rfl ?_
              refine V_aload_n eX6_person_106 0 rfl ?_
              refine V_get (v := .ref (A 3)) eX6_person_107 inX6 0 rfl rfl 1 (Nat.le_of_ble_eq_true rfl) tw_208 rfl ?_
              refine V_get (v := .ref (A 8)) eX6_person_110 inX5 3 rfl rfl 12 (Nat.le_of_ble_eq_true rfl) tw_76 rfl ?_
              refine V_iload_n eX6_person_113 1 rfl ?_
              refine V_iload eX6_person_114 5 rfl ?_
              obtain ⟨hi10, h⟩ := ckb_some h
              refine V_iast (w' := wC G A (sA (sA (sA (sA (sF c 5 ((c.1 5) ||| ((1 : Int32) <<< (p1 &&& 31)))) 2 (p1).toNatClampNeg p2) 3 (p1).toNatClampNeg p3) 4 (p1).toNatClampNeg p4) 5 (p1).toNatClampNeg p5)) eX6_person_116 8 rfl hi10 rfl ?_
              refine V_aload_n eX6_person_117 0 rfl ?_
              refine V_get (v := .ref (A 3)) eX6_person_118 inX6 0 rfl rfl 1 (Nat.le_of_ble_eq_true rfl) tw_208 rfl ?_
              refine V_get (v := .ref (A 9)) eX6_person_121 inX5 3 rfl rfl 13 (Nat.le_of_ble_eq_true rfl) tw_78 rfl ?_
              refine V_iload_n eX6_person_124 1 rfl ?_
              refine V_iload eX6_person_125 6 rfl ?_
              obtain ⟨hi11, h⟩ := ckb_some h
              refine V_iast (w' := wC G A (sA (sA (sA (sA (sA (sF c 5 ((c.1 5) ||| ((1 : Int32) <<< (p1 &&& 31)))) 2 (p1).toNatClampNeg p2) 3 (p1).toNatClampNeg p3) 4 (p1).toNatClampNeg p4) 5 (p1).toNatClampNeg p5) 6 (p1).toNatClampNeg p6)) eX6_person_127 9 rfl hi11 rfl ?_
              refine V_aload_n eX6_person_128 0 rfl ?_
              refine V_get (v := .ref (A 3)) eX6_person_129 inX6 0 rfl rfl 1 (Nat.le_of_ble_eq_true rfl) tw_208 rfl ?_
              refine V_get (v := .ref (A 10)) eX6_person_132 inX5 3 rfl rfl 14 (Nat.le_of_ble_eq_true rfl) tw_80 rfl ?_
              refine V_iload_n eX6_person_135 1 rfl ?_
              refine V_bipush (v := (127 : Int32)) eX6_person_136 rfl ?_
              obtain ⟨hi12, h⟩ := ckb_some h
              refine V_iast (w' := wC G A (sA (sA (sA (sA (sA (sA (sF c 5 ((c.1 5) ||| ((1 : Int32) <<< (p1 &&& 31)))) 2 (p1).toNatClampNeg p2) 3 (p1).toNatClampNeg p3) 4 (p1).toNatClampNeg p4) 5 (p1).toNatClampNeg p5) 6 (p1).toNatClampNeg p6) 7 (p1).toNatClampNeg (127 : Int32))) eX6_person_138 10 rfl hi12 rfl ?_
              refine V_aload_n eX6_person_139 0 rfl ?_
              refine V_get (v := .ref (A 3)) eX6_person_140 inX6 0 rfl rfl 1 (Nat.le_of_ble_eq_true rfl) tw_208 rfl ?_
              refine V_get (v := .int ((c.1 5) ||| ((1 : Int32) <<< (p1 &&& 31)))) eX6_person_143 inX5 3 rfl rfl 4 (Nat.le_of_ble_eq_true rfl) tw_55 rfl ?_
              refine V_callSi (rest := []) eX6_person_146 (ctJ6_bitCount_0f7a4 l G _ ((c.1 5) ||| ((1 : Int32) <<< (p1 &&& 31))) rfl) tc_300 tw_298 tw_10 tw_299 hdJ6_bitCount_0f7a4 rfl ⟨Nat.le_of_ble_eq_true rfl, Nat.le_of_ble_eq_true rfl⟩ rfl (Nat.le_of_ble_eq_true rfl) ⟨Nat.zero_le _, Nat.zero_le _⟩ ?_
              obtain rfl := Option.some.inj h
              exact V_ret eX6_person_149 rfl ⟨rfl, rfl⟩
            · replace h := (if_pos hb6).symm.trans h
              refine V_bipush (v := (-2 : Int32)) eX6_person_57 rfl ?_
              obtain rfl := Option.some.inj h
              exact V_ret eX6_person_59 rfl ⟨rfl, rfl⟩
    · replace h := (if_pos hb2).symm.trans h
      refine V_iconst (v := (-1 : Int32)) eX6_person_21 rfl ?_
      obtain rfl := Option.some.inj h
      exact V_ret eX6_person_22 rfl ⟨rfl, rfl⟩
theorem hdX5_isPerson : yX5_isPerson.cls ≠ "java/lang/invoke/MethodHandle" ∧ yX5_isPerson.cls ≠ "java/lang/invoke/VarHandle" ∧ (parseMethodDescriptor yX5_isPerson.desc).map (fun d => d.parameters.length) = some 1 := by decide +kernel
theorem eX5_isPerson_0 : Dc cX5_isPerson 0 (.iload_n 1) 1 1 := ⟨by decide +kernel, rfl⟩
theorem eX5_isPerson_1 : Dc cX5_isPerson 1 (.iconst 0) 1 2 := ⟨by decide +kernel, rfl⟩
theorem eX5_isPerson_2 : Dc cX5_isPerson 2 (.bipush 7) 2 4 := ⟨by decide +kernel, rfl⟩
theorem eX5_isPerson_4 : Dc cX5_isPerson 4 (.invokestatic 85) 3 7 := ⟨by decide +kernel, rfl⟩
theorem eX5_isPerson_7 : Dc cX5_isPerson 7 (.ifCond .eq 19) 3 10 := ⟨by decide +kernel, rfl⟩
theorem eX5_isPerson_10 : Dc cX5_isPerson 10 (.aload_n 0) 1 11 := ⟨by decide +kernel, rfl⟩
theorem eX5_isPerson_11 : Dc cX5_isPerson 11 (.getfield 46) 3 14 := ⟨by decide +kernel, rfl⟩
theorem eX5_isPerson_14 : Dc cX5_isPerson 14 (.iload_n 1) 1 15 := ⟨by decide +kernel, rfl⟩
theorem eX5_isPerson_15 : Dc cX5_isPerson 15 (.ishr) 1 16 := ⟨by decide +kernel, rfl⟩
theorem eX5_isPerson_16 : Dc cX5_isPerson 16 (.iconst 1) 1 17 := ⟨by decide +kernel, rfl⟩
theorem eX5_isPerson_17 : Dc cX5_isPerson 17 (.iand) 1 18 := ⟨by decide +kernel, rfl⟩
theorem eX5_isPerson_18 : Dc cX5_isPerson 18 (.iconst 1) 1 19 := ⟨by decide +kernel, rfl⟩
theorem eX5_isPerson_19 : Dc cX5_isPerson 19 (.if_icmp .ne 7) 3 22 := ⟨by decide +kernel, rfl⟩
theorem eX5_isPerson_22 : Dc cX5_isPerson 22 (.iconst 1) 1 23 := ⟨by decide +kernel, rfl⟩
theorem eX5_isPerson_23 : Dc cX5_isPerson 23 (.goto 4) 3 26 := ⟨by decide +kernel, rfl⟩
theorem eX5_isPerson_26 : Dc cX5_isPerson 26 (.iconst 0) 1 27 := ⟨by decide +kernel, rfl⟩
theorem eX5_isPerson_27 : Dc cX5_isPerson 27 (.ireturn) 1 28 := ⟨by decide +kernel, rfl⟩
def fX5_isPerson (c : SS) (p1 : Int32) : Int32 := if (fX6_within p1 (0 : Int32) (7 : Int32)) = (0 : Int32) then (0 : Int32) else if (((c.1 5) >>> (p1 &&& 31)) &&& (1 : Int32)) = (1 : Int32) then (1 : Int32) else (0 : Int32)
set_option maxRecDepth 20000 in
theorem ctX5_isPerson (l : Launch) (G : tg_G) (A : Nat → Nat) (c : SS) (p1 : Int32) {z : Int32} (h : fX5_isPerson c p1 = z) : Mt l G yX5_isPerson cX5_isPerson 2 (some .boolean) (tg_R 1 22) [.ref (A 3), .int p1] (wC G A c) (fun v w1 => v = some (.int z) ∧ w1 = wC G A c) := by
  refine Mt_of2 (own := "TramGod$World") (nm := "isPerson") rfl rfl rfl (Nat.le_of_ble_eq_true rfl) (lv := [(0, .ref (A 3)), (1, .int p1)]) rfl ?_
  unfold fX5_isPerson at h
  refine V_iload_n eX5_isPerson_0 1 rfl ?_
  refine V_iconst (v := (0 : Int32)) eX5_isPerson_1 rfl ?_
  refine V_bipush (v := (7 : Int32)) eX5_isPerson_2 rfl ?_
  refine V_callSNi (rest := []) eX5_isPerson_4 (ctX6_within l G _ p1 (0 : Int32) (7 : Int32) rfl) tc_241 (List.mem_of_getElem? (i := 3) rfl) tw_1 tw_240 hdX6_within rfl ⟨Nat.le_of_ble_eq_true rfl, Nat.le_of_ble_eq_true rfl⟩ rfl (Nat.le_of_ble_eq_true rfl) ⟨Nat.zero_le _, Nat.zero_le _⟩ ?_
  refine V_if_eq (tgt := 26) eX5_isPerson_7 rfl (fun hb1 => ?_) (fun hb1 => ?_)
  · replace h := (if_pos hb1).symm.trans h
    refine V_iconst (v := (0 : Int32)) eX5_isPerson_26 rfl ?_
    subst h
    exact V_zret eX5_isPerson_27 rfl rfl ⟨rfl, rfl⟩
  · replace h := (if_neg hb1).symm.trans h
    refine V_aload_n eX5_isPerson_10 0 rfl ?_
    refine V_get (v := .int (c.1 5)) eX5_isPerson_11 inX5 3 rfl rfl 4 (Nat.le_of_ble_eq_true rfl) tw_54 rfl ?_
    refine V_iload_n eX5_isPerson_14 1 rfl ?_
    refine V_ishr eX5_isPerson_15 ?_
    refine V_iconst (v := (1 : Int32)) eX5_isPerson_16 rfl ?_
    refine V_iand eX5_isPerson_17 ?_
    refine V_iconst (v := (1 : Int32)) eX5_isPerson_18 rfl ?_
    refine V_icmp_ne (tgt := 26) eX5_isPerson_19 rfl (fun hb2 => ?_) (fun hb2 => ?_)
    · replace h := (if_neg hb2).symm.trans h
      refine V_iconst (v := (0 : Int32)) eX5_isPerson_26 rfl ?_
      subst h
      exact V_zret eX5_isPerson_27 rfl rfl ⟨rfl, rfl⟩
    · replace h := (if_pos hb2).symm.trans h
      refine V_iconst (v := (1 : Int32)) eX5_isPerson_22 rfl ?_
      refine V_goto (tgt := 27) eX5_isPerson_23 rfl ?_
      subst h
      exact V_zret eX5_isPerson_27 rfl rfl ⟨rfl, rfl⟩
theorem bzX5_isPerson (c : SS) (p1 : Int32) : narrow .boolean (.int (fX5_isPerson c p1)) = .int (fX5_isPerson c p1) := by
  unfold fX5_isPerson
  repeat' split
  all_goals first | rfl | exact (bzX6_within p1 (0 : Int32) (7 : Int32))
theorem hdX6_leave : yX6_leave.cls ≠ "java/lang/invoke/MethodHandle" ∧ yX6_leave.cls ≠ "java/lang/invoke/VarHandle" ∧ (parseMethodDescriptor yX6_leave.desc).map (fun d => d.parameters.length) = some 1 := by decide +kernel
theorem eX6_leave_0 : Dc cX6_leave 0 (.aload_n 0) 1 1 := ⟨by decide +kernel, rfl⟩
theorem eX6_leave_1 : Dc cX6_leave 1 (.getfield 19) 3 4 := ⟨by decide +kernel, rfl⟩
theorem eX6_leave_4 : Dc cX6_leave 4 (.iload_n 1) 1 5 := ⟨by decide +kernel, rfl⟩
theorem eX6_leave_5 : Dc cX6_leave 5 (.invokevirtual 127) 3 8 := ⟨by decide +kernel, rfl⟩
theorem eX6_leave_8 : Dc cX6_leave 8 (.ifCond .ne 5) 3 11 := ⟨by decide +kernel, rfl⟩
theorem eX6_leave_11 : Dc cX6_leave 11 (.iconst (-1)) 1 12 := ⟨by decide +kernel, rfl⟩
theorem eX6_leave_12 : Dc cX6_leave 12 (.ireturn) 1 13 := ⟨by decide +kernel, rfl⟩
theorem eX6_leave_13 : Dc cX6_leave 13 (.aload_n 0) 1 14 := ⟨by decide +kernel, rfl⟩
theorem eX6_leave_14 : Dc cX6_leave 14 (.getfield 19) 3 17 := ⟨by decide +kernel, rfl⟩
theorem eX6_leave_17 : Dc cX6_leave 17 (.dup) 1 18 := ⟨by decide +kernel, rfl⟩
theorem eX6_leave_18 : Dc cX6_leave 18 (.getfield 100) 3 21 := ⟨by decide +kernel, rfl⟩
theorem eX6_leave_21 : Dc cX6_leave 21 (.iconst 1) 1 22 := ⟨by decide +kernel, rfl⟩
theorem eX6_leave_22 : Dc cX6_leave 22 (.iload_n 1) 1 23 := ⟨by decide +kernel, rfl⟩
theorem eX6_leave_23 : Dc cX6_leave 23 (.ishl) 1 24 := ⟨by decide +kernel, rfl⟩
theorem eX6_leave_24 : Dc cX6_leave 24 (.iconst (-1)) 1 25 := ⟨by decide +kernel, rfl⟩
theorem eX6_leave_25 : Dc cX6_leave 25 (.ixor) 1 26 := ⟨by decide +kernel, rfl⟩
theorem eX6_leave_26 : Dc cX6_leave 26 (.iand) 1 27 := ⟨by decide +kernel, rfl⟩
theorem eX6_leave_27 : Dc cX6_leave 27 (.putfield 100) 3 30 := ⟨by decide +kernel, rfl⟩
theorem eX6_leave_30 : Dc cX6_leave 30 (.aload_n 0) 1 31 := ⟨by decide +kernel, rfl⟩
theorem eX6_leave_31 : Dc cX6_leave 31 (.getfield 19) 3 34 := ⟨by decide +kernel, rfl⟩
theorem eX6_leave_34 : Dc cX6_leave 34 (.getfield 100) 3 37 := ⟨by decide +kernel, rfl⟩
theorem eX6_leave_37 : Dc cX6_leave 37 (.invokestatic 121) 3 40 := ⟨by decide +kernel, rfl⟩
theorem eX6_leave_40 : Dc cX6_leave 40 (.ireturn) 1 41 := ⟨by decide +kernel, rfl⟩
def fX6_leave (c : SS) (p1 : Int32) : Int32 × SS := if (fX5_isPerson c p1) = (0 : Int32) then ((-1 : Int32), c) else ((fJ6_bitCount_0f7a4 ((c.1 5) &&& (((1 : Int32) <<< (p1 &&& 31)) ^^^ (-1 : Int32)))), (sF c 5 ((c.1 5) &&& (((1 : Int32) <<< (p1 &&& 31)) ^^^ (-1 : Int32)))))
set_option maxRecDepth 20000 in
theorem ctX6_leave (l : Launch) (G : tg_G) (A : Nat → Nat) (c : SS) (p1 : Int32) {z : Int32 × SS} (h : fX6_leave c p1 = z) : Mt l G yX6_leave cX6_leave 2 (some .int) (tg_R 2 43) [.ref (A 0), .int p1] (wC G A c) (fun v w1 => v = some (.int z.1) ∧ w1 = wC G A z.2) := by
  refine Mt_of2 (own := "TramGod") (nm := "leave") rfl rfl rfl (Nat.le_of_ble_eq_true rfl) (lv := [(0, .ref (A 0)), (1, .int p1)]) rfl ?_
  unfold fX6_leave at h
  refine V_aload_n eX6_leave_0 0 rfl ?_
  refine V_get (v := .ref (A 3)) eX6_leave_1 inX6 0 rfl rfl 1 (Nat.le_of_ble_eq_true rfl) tw_208 rfl ?_
  refine V_iload_n eX6_leave_4 1 rfl ?_
  refine V_callVi (rest := []) eX6_leave_5 (ctX5_isPerson l G A c p1 rfl) tc_311 tw_308 tw_3 tw_309 tw_310 3 rfl rfl hdX5_isPerson rfl ⟨Nat.le_of_ble_eq_true rfl, Nat.le_of_ble_eq_true rfl⟩ rfl (Nat.le_of_ble_eq_true rfl) ⟨Nat.zero_le _, Nat.zero_le _⟩ ?_
  refine V_if_ne (tgt := 13) eX6_leave_8 rfl (fun hb1 => ?_) (fun hb1 => ?_)
  · replace h := (if_neg hb1).symm.trans h
    refine V_aload_n eX6_leave_13 0 rfl ?_
    refine V_get (v := .ref (A 3)) eX6_leave_14 inX6 0 rfl rfl 1 (Nat.le_of_ble_eq_true rfl) tw_208 rfl ?_
    refine V_dup eX6_leave_17 rfl ?_
    refine V_get (v := .int (c.1 5)) eX6_leave_18 inX5 3 rfl rfl 4 (Nat.le_of_ble_eq_true rfl) tw_55 rfl ?_
    refine V_iconst (v := (1 : Int32)) eX6_leave_21 rfl ?_
    refine V_iload_n eX6_leave_22 1 rfl ?_
    refine V_ishl eX6_leave_23 ?_
    refine V_iconst (v := (-1 : Int32)) eX6_leave_24 rfl ?_
    refine V_ixor eX6_leave_25 ?_
    refine V_iand eX6_leave_26 ?_
    refine V_put (w' := wC G A (sF c 5 ((c.1 5) &&& (((1 : Int32) <<< (p1 &&& 31)) ^^^ (-1 : Int32))))) eX6_leave_27 inX5 tyX5 tyX5_ok nmX5 3 rfl rfl 4 (Nat.le_of_ble_eq_true rfl) tw_55 rfl rfl rfl rfl (Nat.le_of_ble_eq_true rfl) rfl ?_
    refine V_aload_n eX6_leave_30 0 rfl ?_
    refine V_get (v := .ref (A 3)) eX6_leave_31 inX6 0 rfl rfl 1 (Nat.le_of_ble_eq_true rfl) tw_208 rfl ?_
    refine V_get (v := .int ((c.1 5) &&& (((1 : Int32) <<< (p1 &&& 31)) ^^^ (-1 : Int32)))) eX6_leave_34 inX5 3 rfl rfl 4 (Nat.le_of_ble_eq_true rfl) tw_55 rfl ?_
    refine V_callSi (rest := []) eX6_leave_37 (ctJ6_bitCount_0f7a4 l G _ ((c.1 5) &&& (((1 : Int32) <<< (p1 &&& 31)) ^^^ (-1 : Int32))) rfl) tc_300 tw_298 tw_10 tw_299 hdJ6_bitCount_0f7a4 rfl ⟨Nat.le_of_ble_eq_true rfl, Nat.le_of_ble_eq_true rfl⟩ rfl (Nat.le_of_ble_eq_true rfl) ⟨Nat.zero_le _, Nat.zero_le _⟩ ?_
    subst h
    exact V_ret eX6_leave_40 rfl ⟨rfl, rfl⟩
  · replace h := (if_pos hb1).symm.trans h
    refine V_iconst (v := (-1 : Int32)) eX6_leave_11 rfl ?_
    subst h
    exact V_ret eX6_leave_12 rfl ⟨rfl, rfl⟩
theorem hdX6_nights : yX6_nights.cls ≠ "java/lang/invoke/MethodHandle" ∧ yX6_nights.cls ≠ "java/lang/invoke/VarHandle" ∧ (parseMethodDescriptor yX6_nights.desc).map (fun d => d.parameters.length) = some 2 := by decide +kernel
theorem eX6_nights_0 : Dc cX6_nights 0 (.aload_n 0) 1 1 := ⟨by decide +kernel, rfl⟩
theorem eX6_nights_1 : Dc cX6_nights 1 (.getfield 19) 3 4 := ⟨by decide +kernel, rfl⟩
theorem eX6_nights_4 : Dc cX6_nights 4 (.iload_n 1) 1 5 := ⟨by decide +kernel, rfl⟩
theorem eX6_nights_5 : Dc cX6_nights 5 (.invokevirtual 127) 3 8 := ⟨by decide +kernel, rfl⟩
theorem eX6_nights_8 : Dc cX6_nights 8 (.ifCond .ne 5) 3 11 := ⟨by decide +kernel, rfl⟩
theorem eX6_nights_11 : Dc cX6_nights 11 (.iconst (-1)) 1 12 := ⟨by decide +kernel, rfl⟩
theorem eX6_nights_12 : Dc cX6_nights 12 (.ireturn) 1 13 := ⟨by decide +kernel, rfl⟩
theorem eX6_nights_13 : Dc cX6_nights 13 (.iload_n 2) 1 14 := ⟨by decide +kernel, rfl⟩
theorem eX6_nights_14 : Dc cX6_nights 14 (.iconst 0) 1 15 := ⟨by decide +kernel, rfl⟩
theorem eX6_nights_15 : Dc cX6_nights 15 (.bipush 127) 2 17 := ⟨by decide +kernel, rfl⟩
theorem eX6_nights_17 : Dc cX6_nights 17 (.invokestatic 68) 3 20 := ⟨by decide +kernel, rfl⟩
theorem eX6_nights_20 : Dc cX6_nights 20 (.ifCond .ne 6) 3 23 := ⟨by decide +kernel, rfl⟩
theorem eX6_nights_23 : Dc cX6_nights 23 (.bipush (-2)) 2 25 := ⟨by decide +kernel, rfl⟩
theorem eX6_nights_25 : Dc cX6_nights 25 (.ireturn) 1 26 := ⟨by decide +kernel, rfl⟩
theorem eX6_nights_26 : Dc cX6_nights 26 (.aload_n 0) 1 27 := ⟨by decide +kernel, rfl⟩
theorem eX6_nights_27 : Dc cX6_nights 27 (.getfield 19) 3 30 := ⟨by decide +kernel, rfl⟩
theorem eX6_nights_30 : Dc cX6_nights 30 (.getfield 118) 3 33 := ⟨by decide +kernel, rfl⟩
theorem eX6_nights_33 : Dc cX6_nights 33 (.iload_n 1) 1 34 := ⟨by decide +kernel, rfl⟩
theorem eX6_nights_34 : Dc cX6_nights 34 (.iload_n 2) 1 35 := ⟨by decide +kernel, rfl⟩
theorem eX6_nights_35 : Dc cX6_nights 35 (.iastore) 1 36 := ⟨by decide +kernel, rfl⟩
theorem eX6_nights_36 : Dc cX6_nights 36 (.iconst 1) 1 37 := ⟨by decide +kernel, rfl⟩
theorem eX6_nights_37 : Dc cX6_nights 37 (.ireturn) 1 38 := ⟨by decide +kernel, rfl⟩
def fX6_nights (c : SS) (p1 : Int32) (p2 : Int32) : Option (Int32 × SS) := if (fX5_isPerson c p1) = (0 : Int32) then some ((-1 : Int32), c) else if (fX6_within p2 (0 : Int32) (127 : Int32)) = (0 : Int32) then some ((-2 : Int32), c) else ckb 8 p1 (some ((1 : Int32), (sA c 7 (p1).toNatClampNeg p2)))
set_option maxRecDepth 20000 in
theorem ctX6_nights (l : Launch) (G : tg_G) (A : Nat → Nat) (c : SS) (p1 : Int32) (p2 : Int32) {z : Int32 × SS} (h : fX6_nights c p1 p2 = some z) : Mt l G yX6_nights cX6_nights 3 (some .int) (tg_R 2 43) [.ref (A 0), .int p1, .int p2] (wC G A c) (fun v w1 => v = some (.int z.1) ∧ w1 = wC G A z.2) := by
  refine Mt_of2 (own := "TramGod") (nm := "nights") rfl rfl rfl (Nat.le_of_ble_eq_true rfl) (lv := [(0, .ref (A 0)), (1, .int p1), (2, .int p2)]) rfl ?_
  unfold fX6_nights at h
  refine V_aload_n eX6_nights_0 0 rfl ?_
  refine V_get (v := .ref (A 3)) eX6_nights_1 inX6 0 rfl rfl 1 (Nat.le_of_ble_eq_true rfl) tw_208 rfl ?_
  refine V_iload_n eX6_nights_4 1 rfl ?_
  refine V_callVi (rest := []) eX6_nights_5 (ctX5_isPerson l G A c p1 rfl) tc_311 tw_308 tw_3 tw_309 tw_310 3 rfl rfl hdX5_isPerson rfl ⟨Nat.le_of_ble_eq_true rfl, Nat.le_of_ble_eq_true rfl⟩ rfl (Nat.le_of_ble_eq_true rfl) ⟨Nat.zero_le _, Nat.zero_le _⟩ ?_
  refine V_if_ne (tgt := 13) eX6_nights_8 rfl (fun hb1 => ?_) (fun hb1 => ?_)
  · replace h := (if_neg hb1).symm.trans h
    refine V_iload_n eX6_nights_13 2 rfl ?_
    refine V_iconst (v := (0 : Int32)) eX6_nights_14 rfl ?_
    refine V_bipush (v := (127 : Int32)) eX6_nights_15 rfl ?_
    refine V_callSi (rest := []) eX6_nights_17 (ctX6_within l G _ p2 (0 : Int32) (127 : Int32) rfl) tc_241 tw_239 tw_1 tw_240 hdX6_within rfl ⟨Nat.le_of_ble_eq_true rfl, Nat.le_of_ble_eq_true rfl⟩ rfl (Nat.le_of_ble_eq_true rfl) ⟨Nat.zero_le _, Nat.zero_le _⟩ ?_
    refine V_if_ne (tgt := 26) eX6_nights_20 rfl (fun hb2 => ?_) (fun hb2 => ?_)
    · replace h := (if_neg hb2).symm.trans h
      refine V_aload_n eX6_nights_26 0 rfl ?_
      refine V_get (v := .ref (A 3)) eX6_nights_27 inX6 0 rfl rfl 1 (Nat.le_of_ble_eq_true rfl) tw_208 rfl ?_
      refine V_get (v := .ref (A 10)) eX6_nights_30 inX5 3 rfl rfl 14 (Nat.le_of_ble_eq_true rfl) tw_80 rfl ?_
      refine V_iload_n eX6_nights_33 1 rfl ?_
      refine V_iload_n eX6_nights_34 2 rfl ?_
      obtain ⟨hi3, h⟩ := ckb_some h
      refine V_iast (w' := wC G A (sA c 7 (p1).toNatClampNeg p2)) eX6_nights_35 10 rfl hi3 rfl ?_
      refine V_iconst (v := (1 : Int32)) eX6_nights_36 rfl ?_
      obtain rfl := Option.some.inj h
      exact V_ret eX6_nights_37 rfl ⟨rfl, rfl⟩
    · replace h := (if_pos hb2).symm.trans h
      refine V_bipush (v := (-2 : Int32)) eX6_nights_23 rfl ?_
      obtain rfl := Option.some.inj h
      exact V_ret eX6_nights_25 rfl ⟨rfl, rfl⟩
  · replace h := (if_pos hb1).symm.trans h
    refine V_iconst (v := (-1 : Int32)) eX6_nights_11 rfl ?_
    obtain rfl := Option.some.inj h
    exact V_ret eX6_nights_12 rfl ⟨rfl, rfl⟩
theorem hdX6_set : yX6_set.cls ≠ "java/lang/invoke/MethodHandle" ∧ yX6_set.cls ≠ "java/lang/invoke/VarHandle" ∧ (parseMethodDescriptor yX6_set.desc).map (fun d => d.parameters.length) = some 2 := by decide +kernel
theorem eX6_set_0 : Dc cX6_set 0 (.iload_n 1) 1 1 := ⟨by decide +kernel, rfl⟩
theorem eX6_set_1 : Dc cX6_set 1 (.iconst 0) 1 2 := ⟨by decide +kernel, rfl⟩
theorem eX6_set_2 : Dc cX6_set 2 (.iconst 1) 1 3 := ⟨by decide +kernel, rfl⟩
theorem eX6_set_3 : Dc cX6_set 3 (.invokestatic 68) 3 6 := ⟨by decide +kernel, rfl⟩
theorem eX6_set_6 : Dc cX6_set 6 (.ifCond .eq 13) 3 9 := ⟨by decide +kernel, rfl⟩
theorem eX6_set_9 : Dc cX6_set 9 (.iload_n 2) 1 10 := ⟨by decide +kernel, rfl⟩
theorem eX6_set_10 : Dc cX6_set 10 (.iconst 0) 1 11 := ⟨by decide +kernel, rfl⟩
theorem eX6_set_11 : Dc cX6_set 11 (.bipush 9) 2 13 := ⟨by decide +kernel, rfl⟩
theorem eX6_set_13 : Dc cX6_set 13 (.invokestatic 68) 3 16 := ⟨by decide +kernel, rfl⟩
theorem eX6_set_16 : Dc cX6_set 16 (.ifCond .ne 6) 3 19 := ⟨by decide +kernel, rfl⟩
theorem eX6_set_19 : Dc cX6_set 19 (.bipush (-2)) 2 21 := ⟨by decide +kernel, rfl⟩
theorem eX6_set_21 : Dc cX6_set 21 (.ireturn) 1 22 := ⟨by decide +kernel, rfl⟩
theorem eX6_set_22 : Dc cX6_set 22 (.iload_n 1) 1 23 := ⟨by decide +kernel, rfl⟩
theorem eX6_set_23 : Dc cX6_set 23 (.ifCond .ne 13) 3 26 := ⟨by decide +kernel, rfl⟩
theorem eX6_set_26 : Dc cX6_set 26 (.aload_n 0) 1 27 := ⟨by decide +kernel, rfl⟩
theorem eX6_set_27 : Dc cX6_set 27 (.getfield 19) 3 30 := ⟨by decide +kernel, rfl⟩
theorem eX6_set_30 : Dc cX6_set 30 (.getfield 130) 3 33 := ⟨by decide +kernel, rfl⟩
theorem eX6_set_33 : Dc cX6_set 33 (.goto 10) 3 36 := ⟨by decide +kernel, rfl⟩
theorem eX6_set_36 : Dc cX6_set 36 (.aload_n 0) 1 37 := ⟨by decide +kernel, rfl⟩
theorem eX6_set_37 : Dc cX6_set 37 (.getfield 19) 3 40 := ⟨by decide +kernel, rfl⟩
theorem eX6_set_40 : Dc cX6_set 40 (.getfield 133) 3 43 := ⟨by decide +kernel, rfl⟩
theorem eX6_set_43 : Dc cX6_set 43 (.istore_n 3) 1 44 := ⟨by decide +kernel, rfl⟩
theorem eX6_set_44 : Dc cX6_set 44 (.iload_n 1) 1 45 := ⟨by decide +kernel, rfl⟩
theorem eX6_set_45 : Dc cX6_set 45 (.ifCond .ne 14) 3 48 := ⟨by decide +kernel, rfl⟩
theorem eX6_set_48 : Dc cX6_set 48 (.aload_n 0) 1 49 := ⟨by decide +kernel, rfl⟩
theorem eX6_set_49 : Dc cX6_set 49 (.getfield 19) 3 52 := ⟨by decide +kernel, rfl⟩
theorem eX6_set_52 : Dc cX6_set 52 (.iload_n 2) 1 53 := ⟨by decide +kernel, rfl⟩
theorem eX6_set_53 : Dc cX6_set 53 (.putfield 130) 3 56 := ⟨by decide +kernel, rfl⟩
theorem eX6_set_56 : Dc cX6_set 56 (.goto 11) 3 59 := ⟨by decide +kernel, rfl⟩
theorem eX6_set_59 : Dc cX6_set 59 (.aload_n 0) 1 60 := ⟨by decide +kernel, rfl⟩
theorem eX6_set_60 : Dc cX6_set 60 (.getfield 19) 3 63 := ⟨by decide +kernel, rfl⟩
theorem eX6_set_63 : Dc cX6_set 63 (.iload_n 2) 1 64 := ⟨by decide +kernel, rfl⟩
theorem eX6_set_64 : Dc cX6_set 64 (.putfield 133) 3 67 := ⟨by decide +kernel, rfl⟩
theorem eX6_set_67 : Dc cX6_set 67 (.iload_n 3) 1 68 := ⟨by decide +kernel, rfl⟩
theorem eX6_set_68 : Dc cX6_set 68 (.ireturn) 1 69 := ⟨by decide +kernel, rfl⟩
def fX6_set (c : SS) (p1 : Int32) (p2 : Int32) : Int32 × SS := if (fX6_within p1 (0 : Int32) (1 : Int32)) = (0 : Int32) then ((-2 : Int32), c) else if (fX6_within p2 (0 : Int32) (9 : Int32)) = (0 : Int32) then ((-2 : Int32), c) else jn (fun (x3 : Int32) => if p1 = (0 : Int32) then (x3, (sF c 3 p2)) else (x3, (sF c 4 p2))) (fun j43 => if p1 = (0 : Int32) then j43 (c.1 3) else j43 (c.1 4))
set_option maxRecDepth 20000 in
theorem ctX6_set (l : Launch) (G : tg_G) (A : Nat → Nat) (c : SS) (p1 : Int32) (p2 : Int32) {z : Int32 × SS} (h : fX6_set c p1 p2 = z) : Mt l G yX6_set cX6_set 4 (some .int) (tg_R 1 22) [.ref (A 0), .int p1, .int p2] (wC G A c) (fun v w1 => v = some (.int z.1) ∧ w1 = wC G A z.2) := by
  refine Mt_of2 (own := "TramGod") (nm := "set") rfl rfl rfl (Nat.le_of_ble_eq_true rfl) (lv := [(0, .ref (A 0)), (1, .int p1), (2, .int p2)]) rfl ?_
  unfold fX6_set at h
  refine V_iload_n eX6_set_0 1 rfl ?_
  refine V_iconst (v := (0 : Int32)) eX6_set_1 rfl ?_
  refine V_iconst (v := (1 : Int32)) eX6_set_2 rfl ?_
  refine V_callSi (rest := []) eX6_set_3 (ctX6_within l G _ p1 (0 : Int32) (1 : Int32) rfl) tc_241 tw_239 tw_1 tw_240 hdX6_within rfl ⟨Nat.le_of_ble_eq_true rfl, Nat.le_of_ble_eq_true rfl⟩ rfl (Nat.le_of_ble_eq_true rfl) ⟨Nat.zero_le _, Nat.zero_le _⟩ ?_
  refine V_if_eq (tgt := 19) eX6_set_6 rfl (fun hb1 => ?_) (fun hb1 => ?_)
  · replace h := (if_pos hb1).symm.trans h
    refine V_bipush (v := (-2 : Int32)) eX6_set_19 rfl ?_
    subst h
    exact V_ret eX6_set_21 rfl ⟨rfl, rfl⟩
  · replace h := (if_neg hb1).symm.trans h
    refine V_iload_n eX6_set_9 2 rfl ?_
    refine V_iconst (v := (0 : Int32)) eX6_set_10 rfl ?_
    refine V_bipush (v := (9 : Int32)) eX6_set_11 rfl ?_
    refine V_callSi (rest := []) eX6_set_13 (ctX6_within l G _ p2 (0 : Int32) (9 : Int32) rfl) tc_241 tw_239 tw_1 tw_240 hdX6_within rfl ⟨Nat.le_of_ble_eq_true rfl, Nat.le_of_ble_eq_true rfl⟩ rfl (Nat.le_of_ble_eq_true rfl) ⟨Nat.zero_le _, Nat.zero_le _⟩ ?_
    refine V_if_ne (tgt := 22) eX6_set_16 rfl (fun hb2 => ?_) (fun hb2 => ?_)
    · replace h := (if_neg hb2).symm.trans h
      refine V_iload_n eX6_set_22 1 rfl ?_
      refine jn_elim h (fun j => ∀ (x3 : Int32), j x3 = z → V l G (tg_Zm G (fun v w1 => v = some (.int z.1) ∧ w1 = wC G A z.2) 0 0) tg_E0 (tg_R 1 22) "TramGod" "set" cX6_set 4 (some .int) 43 [(0, .ref (A 0)), (1, .int p1), (2, .int p2)] [.int x3] (wC G A c) 0 0) ?_ (fun j43 hj43 h => ?_)
      · intro x3 h
        refine V_istore_n (lv' := [(3, .int x3), (0, .ref (A 0)), (1, .int p1), (2, .int p2)]) eX6_set_43 (Nat.le_of_ble_eq_true rfl) rfl ?_
        refine V_iload_n eX6_set_44 2 rfl ?_
        refine V_if_ne (tgt := 59) eX6_set_45 rfl (fun hb4 => ?_) (fun hb4 => ?_)
        · replace h := (if_neg hb4).symm.trans h
          refine V_aload_n eX6_set_59 1 rfl ?_
          refine V_get (v := .ref (A 3)) eX6_set_60 inX6 0 rfl rfl 1 (Nat.le_of_ble_eq_true rfl) tw_208 rfl ?_
          refine V_iload_n eX6_set_63 3 rfl ?_
          refine V_put (w' := wC G A (sF c 4 p2)) eX6_set_64 inX5 tyX5 tyX5_ok nmX5 3 rfl rfl 3 (Nat.le_of_ble_eq_true rfl) tw_53 rfl rfl rfl rfl (Nat.le_of_ble_eq_true rfl) rfl ?_
          refine V_iload_n eX6_set_67 0 rfl ?_
          subst h
          exact V_ret eX6_set_68 rfl ⟨rfl, rfl⟩
        · replace h := (if_pos hb4).symm.trans h
          refine V_aload_n eX6_set_48 1 rfl ?_
          refine V_get (v := .ref (A 3)) eX6_set_49 inX6 0 rfl rfl 1 (Nat.le_of_ble_eq_true rfl) tw_208 rfl ?_
          refine V_iload_n eX6_set_52 3 rfl ?_
          refine V_put (w' := wC G A (sF c 3 p2)) eX6_set_53 inX5 tyX5 tyX5_ok nmX5 3 rfl rfl 2 (Nat.le_of_ble_eq_true rfl) tw_51 rfl rfl rfl rfl (Nat.le_of_ble_eq_true rfl) rfl ?_
          refine V_goto (tgt := 67) eX6_set_56 rfl ?_
          refine V_iload_n eX6_set_67 0 rfl ?_
          subst h
          exact V_ret eX6_set_68 rfl ⟨rfl, rfl⟩
      refine V_if_ne (tgt := 36) eX6_set_23 rfl (fun hb5 => ?_) (fun hb5 => ?_)
      · replace h := (if_neg hb5).symm.trans h
        refine V_aload_n eX6_set_36 0 rfl ?_
        refine V_get (v := .ref (A 3)) eX6_set_37 inX6 0 rfl rfl 1 (Nat.le_of_ble_eq_true rfl) tw_208 rfl ?_
        refine V_get (v := .int (c.1 4)) eX6_set_40 inX5 3 rfl rfl 3 (Nat.le_of_ble_eq_true rfl) tw_53 rfl ?_
        exact hj43 (c.1 4) h
      · replace h := (if_pos hb5).symm.trans h
        refine V_aload_n eX6_set_26 0 rfl ?_
        refine V_get (v := .ref (A 3)) eX6_set_27 inX6 0 rfl rfl 1 (Nat.le_of_ble_eq_true rfl) tw_208 rfl ?_
        refine V_get (v := .int (c.1 3)) eX6_set_30 inX5 3 rfl rfl 2 (Nat.le_of_ble_eq_true rfl) tw_51 rfl ?_
        refine V_goto (tgt := 43) eX6_set_33 rfl ?_
        exact hj43 (c.1 3) h
    · replace h := (if_pos hb2).symm.trans h
      refine V_bipush (v := (-2 : Int32)) eX6_set_19 rfl ?_
      subst h
      exact V_ret eX6_set_21 rfl ⟨rfl, rfl⟩
theorem hdX5_isClosed : yX5_isClosed.cls ≠ "java/lang/invoke/MethodHandle" ∧ yX5_isClosed.cls ≠ "java/lang/invoke/VarHandle" ∧ (parseMethodDescriptor yX5_isClosed.desc).map (fun d => d.parameters.length) = some 1 := by decide +kernel
theorem eX5_isClosed_0 : Dc cX5_isClosed 0 (.aload_n 0) 1 1 := ⟨by decide +kernel, rfl⟩
theorem eX5_isClosed_1 : Dc cX5_isClosed 1 (.getfield 43) 3 4 := ⟨by decide +kernel, rfl⟩
theorem eX5_isClosed_4 : Dc cX5_isClosed 4 (.iload_n 1) 1 5 := ⟨by decide +kernel, rfl⟩
theorem eX5_isClosed_5 : Dc cX5_isClosed 5 (.ishr) 1 6 := ⟨by decide +kernel, rfl⟩
theorem eX5_isClosed_6 : Dc cX5_isClosed 6 (.iconst 1) 1 7 := ⟨by decide +kernel, rfl⟩
theorem eX5_isClosed_7 : Dc cX5_isClosed 7 (.iand) 1 8 := ⟨by decide +kernel, rfl⟩
theorem eX5_isClosed_8 : Dc cX5_isClosed 8 (.iconst 1) 1 9 := ⟨by decide +kernel, rfl⟩
theorem eX5_isClosed_9 : Dc cX5_isClosed 9 (.if_icmp .ne 7) 3 12 := ⟨by decide +kernel, rfl⟩
theorem eX5_isClosed_12 : Dc cX5_isClosed 12 (.iconst 1) 1 13 := ⟨by decide +kernel, rfl⟩
theorem eX5_isClosed_13 : Dc cX5_isClosed 13 (.goto 4) 3 16 := ⟨by decide +kernel, rfl⟩
theorem eX5_isClosed_16 : Dc cX5_isClosed 16 (.iconst 0) 1 17 := ⟨by decide +kernel, rfl⟩
theorem eX5_isClosed_17 : Dc cX5_isClosed 17 (.ireturn) 1 18 := ⟨by decide +kernel, rfl⟩
def fX5_isClosed (c : SS) (p1 : Int32) : Int32 := if (((c.1 2) >>> (p1 &&& 31)) &&& (1 : Int32)) = (1 : Int32) then (1 : Int32) else (0 : Int32)
set_option maxRecDepth 20000 in
theorem ctX5_isClosed (l : Launch) (G : tg_G) (A : Nat → Nat) (c : SS) (p1 : Int32) {z : Int32} (h : fX5_isClosed c p1 = z) : Mt l G yX5_isClosed cX5_isClosed 2 (some .boolean) (tg_R 0 0) [.ref (A 3), .int p1] (wC G A c) (fun v w1 => v = some (.int z) ∧ w1 = wC G A c) := by
  refine Mt_of2 (own := "TramGod$World") (nm := "isClosed") rfl rfl rfl (Nat.le_of_ble_eq_true rfl) (lv := [(0, .ref (A 3)), (1, .int p1)]) rfl ?_
  unfold fX5_isClosed at h
  refine V_aload_n eX5_isClosed_0 0 rfl ?_
  refine V_get (v := .int (c.1 2)) eX5_isClosed_1 inX5 3 rfl rfl 1 (Nat.le_of_ble_eq_true rfl) tw_46 rfl ?_
  refine V_iload_n eX5_isClosed_4 1 rfl ?_
  refine V_ishr eX5_isClosed_5 ?_
  refine V_iconst (v := (1 : Int32)) eX5_isClosed_6 rfl ?_
  refine V_iand eX5_isClosed_7 ?_
  refine V_iconst (v := (1 : Int32)) eX5_isClosed_8 rfl ?_
  refine V_icmp_ne (tgt := 16) eX5_isClosed_9 rfl (fun hb1 => ?_) (fun hb1 => ?_)
  · replace h := (if_neg hb1).symm.trans h
    refine V_iconst (v := (0 : Int32)) eX5_isClosed_16 rfl ?_
    subst h
    exact V_zret eX5_isClosed_17 rfl rfl ⟨rfl, rfl⟩
  · replace h := (if_pos hb1).symm.trans h
    refine V_iconst (v := (1 : Int32)) eX5_isClosed_12 rfl ?_
    refine V_goto (tgt := 17) eX5_isClosed_13 rfl ?_
    subst h
    exact V_zret eX5_isClosed_17 rfl rfl ⟨rfl, rfl⟩
theorem bzX5_isClosed (c : SS) (p1 : Int32) : narrow .boolean (.int (fX5_isClosed c p1)) = .int (fX5_isClosed c p1) := by
  unfold fX5_isClosed
  repeat' split
  all_goals first | rfl
theorem hdX6_readHold : yX6_readHold.cls ≠ "java/lang/invoke/MethodHandle" ∧ yX6_readHold.cls ≠ "java/lang/invoke/VarHandle" ∧ (parseMethodDescriptor yX6_readHold.desc).map (fun d => d.parameters.length) = some 0 := by decide +kernel
theorem eX6_readHold_0 : Dc cX6_readHold 0 (.aload_n 0) 1 1 := ⟨by decide +kernel, rfl⟩
theorem eX6_readHold_1 : Dc cX6_readHold 1 (.getfield 10) 3 4 := ⟨by decide +kernel, rfl⟩
theorem eX6_readHold_4 : Dc cX6_readHold 4 (.aload_n 0) 1 5 := ⟨by decide +kernel, rfl⟩
theorem eX6_readHold_5 : Dc cX6_readHold 5 (.getfield 19) 3 8 := ⟨by decide +kernel, rfl⟩
theorem eX6_readHold_8 : Dc cX6_readHold 8 (.getfield 84) 3 11 := ⟨by decide +kernel, rfl⟩
theorem eX6_readHold_11 : Dc cX6_readHold 11 (.aload_n 0) 1 12 := ⟨by decide +kernel, rfl⟩
theorem eX6_readHold_12 : Dc cX6_readHold 12 (.getfield 19) 3 15 := ⟨by decide +kernel, rfl⟩
theorem eX6_readHold_15 : Dc cX6_readHold 15 (.getfield 84) 3 18 := ⟨by decide +kernel, rfl⟩
theorem eX6_readHold_18 : Dc cX6_readHold 18 (.invokevirtual 80) 3 21 := ⟨by decide +kernel, rfl⟩
theorem eX6_readHold_21 : Dc cX6_readHold 21 (.bipush (-6)) 2 23 := ⟨by decide +kernel, rfl⟩
theorem eX6_readHold_23 : Dc cX6_readHold 23 (.if_icmp .eq 5) 3 26 := ⟨by decide +kernel, rfl⟩
theorem eX6_readHold_26 : Dc cX6_readHold 26 (.iconst 0) 1 27 := ⟨by decide +kernel, rfl⟩
theorem eX6_readHold_27 : Dc cX6_readHold 27 (.ireturn) 1 28 := ⟨by decide +kernel, rfl⟩
theorem eX6_readHold_28 : Dc cX6_readHold 28 (.iconst 0) 1 29 := ⟨by decide +kernel, rfl⟩
theorem eX6_readHold_29 : Dc cX6_readHold 29 (.istore_n 1) 1 30 := ⟨by decide +kernel, rfl⟩
theorem eX6_readHold_30 : Dc cX6_readHold 30 (.iload_n 1) 1 31 := ⟨by decide +kernel, rfl⟩
theorem eX6_readHold_31 : Dc cX6_readHold 31 (.aload_n 0) 1 32 := ⟨by decide +kernel, rfl⟩
theorem eX6_readHold_32 : Dc cX6_readHold 32 (.getfield 19) 3 35 := ⟨by decide +kernel, rfl⟩
theorem eX6_readHold_35 : Dc cX6_readHold 35 (.getfield 84) 3 38 := ⟨by decide +kernel, rfl⟩
theorem eX6_readHold_38 : Dc cX6_readHold 38 (.if_icmp .ge 38) 3 41 := ⟨by decide +kernel, rfl⟩
theorem eX6_readHold_41 : Dc cX6_readHold 41 (.aload_n 0) 1 42 := ⟨by decide +kernel, rfl⟩
theorem eX6_readHold_42 : Dc cX6_readHold 42 (.getfield 61) 3 45 := ⟨by decide +kernel, rfl⟩
theorem eX6_readHold_45 : Dc cX6_readHold 45 (.iload_n 1) 1 46 := ⟨by decide +kernel, rfl⟩
theorem eX6_readHold_46 : Dc cX6_readHold 46 (.aload_n 0) 1 47 := ⟨by decide +kernel, rfl⟩
theorem eX6_readHold_47 : Dc cX6_readHold 47 (.getfield 19) 3 50 := ⟨by decide +kernel, rfl⟩
theorem eX6_readHold_50 : Dc cX6_readHold 50 (.iload_n 1) 1 51 := ⟨by decide +kernel, rfl⟩
theorem eX6_readHold_51 : Dc cX6_readHold 51 (.invokevirtual 257) 3 54 := ⟨by decide +kernel, rfl⟩
theorem eX6_readHold_54 : Dc cX6_readHold 54 (.ifCond .eq 7) 3 57 := ⟨by decide +kernel, rfl⟩
theorem eX6_readHold_57 : Dc cX6_readHold 57 (.iconst 0) 1 58 := ⟨by decide +kernel, rfl⟩
theorem eX6_readHold_58 : Dc cX6_readHold 58 (.goto 11) 3 61 := ⟨by decide +kernel, rfl⟩
theorem eX6_readHold_61 : Dc cX6_readHold 61 (.aload_n 0) 1 62 := ⟨by decide +kernel, rfl⟩
theorem eX6_readHold_62 : Dc cX6_readHold 62 (.getfield 10) 3 65 := ⟨by decide +kernel, rfl⟩
theorem eX6_readHold_65 : Dc cX6_readHold 65 (.iload_n 1) 1 66 := ⟨by decide +kernel, rfl⟩
theorem eX6_readHold_66 : Dc cX6_readHold 66 (.invokevirtual 286) 3 69 := ⟨by decide +kernel, rfl⟩
theorem eX6_readHold_69 : Dc cX6_readHold 69 (.iastore) 1 70 := ⟨by decide +kernel, rfl⟩
theorem eX6_readHold_70 : Dc cX6_readHold 70 (.iinc 1 1) 3 73 := ⟨by decide +kernel, rfl⟩
theorem eX6_readHold_73 : Dc cX6_readHold 73 (.goto (-43)) 3 76 := ⟨by decide +kernel, rfl⟩
theorem eX6_readHold_76 : Dc cX6_readHold 76 (.iconst 1) 1 77 := ⟨by decide +kernel, rfl⟩
theorem eX6_readHold_77 : Dc cX6_readHold 77 (.ireturn) 1 78 := ⟨by decide +kernel, rfl⟩
def fX6_readHold_L30   : Nat → Int32 → SS → Option (Int32 × SS)
  | 0, _, _ => none
  | n + 1, a1, c => if (c.1 1) ≤ a1 then some ((1 : Int32), c) else jn (fun (x4 : Int32) => ckb 6 a1 (fX6_readHold_L30  n (a1 + (1 : Int32)) (sA c 19 (a1).toNatClampNeg x4))) (fun j69 => if (fX5_isClosed c a1) = (0 : Int32) then Option.bind (fX1_digit c a1) (fun q7 => j69 q7) else j69 (0 : Int32))
def fX6_readHold (c : SS)  : Option (Int32 × SS) := Option.bind (fX1_faultOf c (c.1 1) (c.1 1)) (fun q1 => if q1 = (-6 : Int32) then fX6_readHold_L30  fu (0 : Int32) c else some ((0 : Int32), c))
set_option maxRecDepth 20000 in
theorem ctX6_readHold_L30 (l : Launch) (G : tg_G) (A : Nat → Nat)   {z : Int32 × SS}  : ∀ (n : Nat) (a1 : Int32) (c : SS), fX6_readHold_L30  n a1 c = some z → V l G (tg_Zm G (fun v w1 => v = some (.int z.1) ∧ w1 = wC G A z.2) 0 0) tg_E0 (tg_R 2 45) "TramGod" "readHold" cX6_readHold 2 (some .boolean) 30 [(0, .ref (A 0)), (1, .int a1)] [] (wC G A c) 0 0 := by
  intro n
  induction n with
  | zero => intro a1 c h; exact absurd h (by simp [fX6_readHold_L30])
  | succ n ih =>
    intro a1 c h
    unfold fX6_readHold_L30 at h
    refine V_iload_n eX6_readHold_30 1 rfl ?_
    refine V_aload_n eX6_readHold_31 0 rfl ?_
    refine V_get (v := .ref (A 3)) eX6_readHold_32 inX6 0 rfl rfl 1 (Nat.le_of_ble_eq_true rfl) tw_208 rfl ?_
    refine V_get (v := .int (c.1 1)) eX6_readHold_35 inX5 3 rfl rfl 0 (Nat.le_of_ble_eq_true rfl) tw_44 rfl ?_
    refine V_icmp_ge (tgt := 76) eX6_readHold_38 rfl (fun hb3 => ?_) (fun hb3 => ?_)
    · replace h := (if_pos hb3).symm.trans h
      refine V_iconst (v := (1 : Int32)) eX6_readHold_76 rfl ?_
      obtain rfl := Option.some.inj h
      exact V_zret eX6_readHold_77 rfl rfl ⟨rfl, rfl⟩
    · replace h := (if_neg hb3).symm.trans h
      refine V_aload_n eX6_readHold_41 0 rfl ?_
      refine V_get (v := .ref (A 26)) eX6_readHold_42 inX6 0 rfl rfl 7 (Nat.le_of_ble_eq_true rfl) tw_214 rfl ?_
      refine V_iload_n eX6_readHold_45 1 rfl ?_
      refine V_aload_n eX6_readHold_46 0 rfl ?_
      refine V_get (v := .ref (A 3)) eX6_readHold_47 inX6 0 rfl rfl 1 (Nat.le_of_ble_eq_true rfl) tw_208 rfl ?_
      refine V_iload_n eX6_readHold_50 1 rfl ?_
      refine V_callVi (rest := [.int a1, .ref (A 26)]) eX6_readHold_51 (ctX5_isClosed l G A c a1 rfl) tc_331 tw_328 tw_3 tw_329 tw_330 3 rfl rfl hdX5_isClosed rfl ⟨Nat.le_of_ble_eq_true rfl, Nat.le_of_ble_eq_true rfl⟩ rfl (Nat.le_of_ble_eq_true rfl) ⟨Nat.zero_le _, Nat.zero_le _⟩ ?_
      refine jn_elim h (fun j => ∀ (x4 : Int32), j x4 = some z → V l G (tg_Zm G (fun v w1 => v = some (.int z.1) ∧ w1 = wC G A z.2) 0 0) tg_E0 (tg_R 2 45) "TramGod" "readHold" cX6_readHold 2 (some .boolean) 69 [(0, .ref (A 0)), (1, .int a1)] [.int x4, .int a1, .ref (A 26)] (wC G A c) 0 0) ?_ (fun j69 hj69 h => ?_)
      · intro x4 h
        obtain ⟨hi5, h⟩ := ckb_some h
        refine V_iast (w' := wC G A (sA c 19 (a1).toNatClampNeg x4)) eX6_readHold_69 26 rfl hi5 rfl ?_
        refine V_iinc (v := (a1 + (1 : Int32))) (lv' := [(1, .int (a1 + (1 : Int32))), (0, .ref (A 0))]) eX6_readHold_70 1 rfl rfl (Nat.le_of_ble_eq_true rfl) rfl ?_
        refine V_goto (tgt := 30) eX6_readHold_73 rfl ?_
        refine V_lv (lv' := [(0, .ref (A 0)), (1, .int (a1 + (1 : Int32)))]) [1, 0] rfl ?_
        exact ih (a1 + (1 : Int32)) (sA c 19 (a1).toNatClampNeg x4) h
      refine V_if_eq (tgt := 61) eX6_readHold_54 rfl (fun hb6 => ?_) (fun hb6 => ?_)
      · replace h := (if_pos hb6).symm.trans h
        refine V_aload_n eX6_readHold_61 0 rfl ?_
        refine V_get (v := .ref (A 1)) eX6_readHold_62 inX6 0 rfl rfl 0 (Nat.le_of_ble_eq_true rfl) tw_207 rfl ?_
        refine V_iload_n eX6_readHold_65 1 rfl ?_
        obtain ⟨q7, hc7, h⟩ := Option.bind_eq_some_iff.mp h
        refine V_callVi (rest := [.int a1, .ref (A 26)]) eX6_readHold_66 (ctX1_digit l G A c a1 hc7) tc_261 tw_332 tw_2 tw_259 tw_260 1 rfl rfl hdX1_digit rfl ⟨Nat.le_of_ble_eq_true rfl, Nat.le_of_ble_eq_true rfl⟩ rfl (Nat.le_of_ble_eq_true rfl) ⟨Nat.zero_le _, Nat.zero_le _⟩ ?_
        exact hj69 q7 h
      · replace h := (if_neg hb6).symm.trans h
        refine V_iconst (v := (0 : Int32)) eX6_readHold_57 rfl ?_
        refine V_goto (tgt := 69) eX6_readHold_58 rfl ?_
        exact hj69 (0 : Int32) h
set_option maxRecDepth 20000 in
theorem ctX6_readHold (l : Launch) (G : tg_G) (A : Nat → Nat) (c : SS)  {z : Int32 × SS} (h : fX6_readHold c  = some z) : Mt l G yX6_readHold cX6_readHold 2 (some .boolean) (tg_R 2 45) [.ref (A 0)] (wC G A c) (fun v w1 => v = some (.int z.1) ∧ w1 = wC G A z.2) := by
  refine Mt_of2 (own := "TramGod") (nm := "readHold") rfl rfl rfl (Nat.le_of_ble_eq_true rfl) (lv := [(0, .ref (A 0))]) rfl ?_
  unfold fX6_readHold at h
  refine V_aload_n eX6_readHold_0 0 rfl ?_
  refine V_get (v := .ref (A 1)) eX6_readHold_1 inX6 0 rfl rfl 0 (Nat.le_of_ble_eq_true rfl) tw_207 rfl ?_
  refine V_aload_n eX6_readHold_4 0 rfl ?_
  refine V_get (v := .ref (A 3)) eX6_readHold_5 inX6 0 rfl rfl 1 (Nat.le_of_ble_eq_true rfl) tw_208 rfl ?_
  refine V_get (v := .int (c.1 1)) eX6_readHold_8 inX5 3 rfl rfl 0 (Nat.le_of_ble_eq_true rfl) tw_44 rfl ?_
  refine V_aload_n eX6_readHold_11 0 rfl ?_
  refine V_get (v := .ref (A 3)) eX6_readHold_12 inX6 0 rfl rfl 1 (Nat.le_of_ble_eq_true rfl) tw_208 rfl ?_
  refine V_get (v := .int (c.1 1)) eX6_readHold_15 inX5 3 rfl rfl 0 (Nat.le_of_ble_eq_true rfl) tw_44 rfl ?_
  obtain ⟨q1, hc1, h⟩ := Option.bind_eq_some_iff.mp h
  refine V_callVi (rest := []) eX6_readHold_18 (ctX1_faultOf l G A c (c.1 1) (c.1 1) hc1) tc_257 tw_254 tw_2 tw_255 tw_256 1 rfl rfl hdX1_faultOf rfl ⟨Nat.le_of_ble_eq_true rfl, Nat.le_of_ble_eq_true rfl⟩ rfl (Nat.le_of_ble_eq_true rfl) ⟨Nat.zero_le _, Nat.zero_le _⟩ ?_
  refine V_bipush (v := (-6 : Int32)) eX6_readHold_21 rfl ?_
  refine V_icmp_eq (tgt := 28) eX6_readHold_23 rfl (fun hb2 => ?_) (fun hb2 => ?_)
  · replace h := (if_pos hb2).symm.trans h
    refine V_iconst (v := (0 : Int32)) eX6_readHold_28 rfl ?_
    refine V_istore_n (lv' := [(1, .int (0 : Int32)), (0, .ref (A 0))]) eX6_readHold_29 (Nat.le_of_ble_eq_true rfl) rfl ?_
    refine V_lv (lv' := [(0, .ref (A 0)), (1, .int (0 : Int32))]) [1, 0] rfl ?_
    refine ctX6_readHold_L30 l G A fu (0 : Int32) c h
  · replace h := (if_neg hb2).symm.trans h
    refine V_iconst (v := (0 : Int32)) eX6_readHold_26 rfl ?_
    obtain rfl := Option.some.inj h
    exact V_zret eX6_readHold_27 rfl rfl ⟨rfl, rfl⟩
theorem hdX6_stopOverEach : yX6_stopOverEach.cls ≠ "java/lang/invoke/MethodHandle" ∧ yX6_stopOverEach.cls ≠ "java/lang/invoke/VarHandle" ∧ (parseMethodDescriptor yX6_stopOverEach.desc).map (fun d => d.parameters.length) = some 0 := by decide +kernel
theorem eX6_stopOverEach_0 : Dc cX6_stopOverEach 0 (.iconst 0) 1 1 := ⟨by decide +kernel, rfl⟩
theorem eX6_stopOverEach_1 : Dc cX6_stopOverEach 1 (.istore_n 1) 1 2 := ⟨by decide +kernel, rfl⟩
theorem eX6_stopOverEach_2 : Dc cX6_stopOverEach 2 (.iload_n 1) 1 3 := ⟨by decide +kernel, rfl⟩
theorem eX6_stopOverEach_3 : Dc cX6_stopOverEach 3 (.aload_n 0) 1 4 := ⟨by decide +kernel, rfl⟩
theorem eX6_stopOverEach_4 : Dc cX6_stopOverEach 4 (.getfield 19) 3 7 := ⟨by decide +kernel, rfl⟩
theorem eX6_stopOverEach_7 : Dc cX6_stopOverEach 7 (.getfield 84) 3 10 := ⟨by decide +kernel, rfl⟩
theorem eX6_stopOverEach_10 : Dc cX6_stopOverEach 10 (.if_icmp .ge 27) 3 13 := ⟨by decide +kernel, rfl⟩
theorem eX6_stopOverEach_13 : Dc cX6_stopOverEach 13 (.aload_n 0) 1 14 := ⟨by decide +kernel, rfl⟩
theorem eX6_stopOverEach_14 : Dc cX6_stopOverEach 14 (.getfield 61) 3 17 := ⟨by decide +kernel, rfl⟩
theorem eX6_stopOverEach_17 : Dc cX6_stopOverEach 17 (.iload_n 1) 1 18 := ⟨by decide +kernel, rfl⟩
theorem eX6_stopOverEach_18 : Dc cX6_stopOverEach 18 (.iaload) 1 19 := ⟨by decide +kernel, rfl⟩
theorem eX6_stopOverEach_19 : Dc cX6_stopOverEach 19 (.aload_n 0) 1 20 := ⟨by decide +kernel, rfl⟩
theorem eX6_stopOverEach_20 : Dc cX6_stopOverEach 20 (.getfield 19) 3 23 := ⟨by decide +kernel, rfl⟩
theorem eX6_stopOverEach_23 : Dc cX6_stopOverEach 23 (.getfield 133) 3 26 := ⟨by decide +kernel, rfl⟩
theorem eX6_stopOverEach_26 : Dc cX6_stopOverEach 26 (.if_icmp .le 5) 3 29 := ⟨by decide +kernel, rfl⟩
theorem eX6_stopOverEach_29 : Dc cX6_stopOverEach 29 (.iload_n 1) 1 30 := ⟨by decide +kernel, rfl⟩
theorem eX6_stopOverEach_30 : Dc cX6_stopOverEach 30 (.ireturn) 1 31 := ⟨by decide +kernel, rfl⟩
theorem eX6_stopOverEach_31 : Dc cX6_stopOverEach 31 (.iinc 1 1) 3 34 := ⟨by decide +kernel, rfl⟩
theorem eX6_stopOverEach_34 : Dc cX6_stopOverEach 34 (.goto (-32)) 3 37 := ⟨by decide +kernel, rfl⟩
theorem eX6_stopOverEach_37 : Dc cX6_stopOverEach 37 (.bipush (-6)) 2 39 := ⟨by decide +kernel, rfl⟩
theorem eX6_stopOverEach_39 : Dc cX6_stopOverEach 39 (.ireturn) 1 40 := ⟨by decide +kernel, rfl⟩
def fX6_stopOverEach_L2  (c : SS)  : Nat → Int32 → Option (Int32)
  | 0, _ => none
  | n + 1, a1 => if (c.1 1) ≤ a1 then some (-6 : Int32) else ald 6 (c.2 19) a1 (fun v2 => if v2 ≤ (c.1 4) then fX6_stopOverEach_L2 c n (a1 + (1 : Int32)) else some a1)
def fX6_stopOverEach (c : SS)  : Option (Int32) := fX6_stopOverEach_L2 c fu (0 : Int32)
set_option maxRecDepth 20000 in
theorem ctX6_stopOverEach_L2 (l : Launch) (G : tg_G) (A : Nat → Nat)  (c : SS)  {z : Int32}  : ∀ (n : Nat) (a1 : Int32), fX6_stopOverEach_L2 c n a1 = some z → V l G (tg_Zm G (fun v w1 => v = some (.int z) ∧ w1 = wC G A c) 0 0) tg_E0 (tg_R 0 0) "TramGod" "stopOverEach" cX6_stopOverEach 2 (some .int) 2 [(0, .ref (A 0)), (1, .int a1)] [] (wC G A c) 0 0 := by
  intro n
  induction n with
  | zero => intro a1 h; exact absurd h (by simp [fX6_stopOverEach_L2])
  | succ n ih =>
    intro a1 h
    unfold fX6_stopOverEach_L2 at h
    refine V_iload_n eX6_stopOverEach_2 1 rfl ?_
    refine V_aload_n eX6_stopOverEach_3 0 rfl ?_
    refine V_get (v := .ref (A 3)) eX6_stopOverEach_4 inX6 0 rfl rfl 1 (Nat.le_of_ble_eq_true rfl) tw_208 rfl ?_
    refine V_get (v := .int (c.1 1)) eX6_stopOverEach_7 inX5 3 rfl rfl 0 (Nat.le_of_ble_eq_true rfl) tw_44 rfl ?_
    refine V_icmp_ge (tgt := 37) eX6_stopOverEach_10 rfl (fun hb1 => ?_) (fun hb1 => ?_)
    · replace h := (if_pos hb1).symm.trans h
      refine V_bipush (v := (-6 : Int32)) eX6_stopOverEach_37 rfl ?_
      obtain rfl := Option.some.inj h
      exact V_ret eX6_stopOverEach_39 rfl ⟨rfl, rfl⟩
    · replace h := (if_neg hb1).symm.trans h
      refine V_aload_n eX6_stopOverEach_13 0 rfl ?_
      refine V_get (v := .ref (A 26)) eX6_stopOverEach_14 inX6 0 rfl rfl 7 (Nat.le_of_ble_eq_true rfl) tw_214 rfl ?_
      refine V_iload_n eX6_stopOverEach_17 1 rfl ?_
      obtain ⟨v2, hi2, ev2, h⟩ := ald_some h
      refine V_ialdv eX6_stopOverEach_18 26 rfl hi2 ev2 ?_
      refine V_aload_n eX6_stopOverEach_19 0 rfl ?_
      refine V_get (v := .ref (A 3)) eX6_stopOverEach_20 inX6 0 rfl rfl 1 (Nat.le_of_ble_eq_true rfl) tw_208 rfl ?_
      refine V_get (v := .int (c.1 4)) eX6_stopOverEach_23 inX5 3 rfl rfl 3 (Nat.le_of_ble_eq_true rfl) tw_53 rfl ?_
      refine V_icmp_le (tgt := 31) eX6_stopOverEach_26 rfl (fun hb3 => ?_) (fun hb3 => ?_)
      · replace h := (if_pos hb3).symm.trans h
        refine V_iinc (v := (a1 + (1 : Int32))) (lv' := [(1, .int (a1 + (1 : Int32))), (0, .ref (A 0))]) eX6_stopOverEach_31 1 rfl rfl (Nat.le_of_ble_eq_true rfl) rfl ?_
        refine V_goto (tgt := 2) eX6_stopOverEach_34 rfl ?_
        refine V_lv (lv' := [(0, .ref (A 0)), (1, .int (a1 + (1 : Int32)))]) [1, 0] rfl ?_
        exact ih (a1 + (1 : Int32)) h
      · replace h := (if_neg hb3).symm.trans h
        refine V_iload_n eX6_stopOverEach_29 1 rfl ?_
        obtain rfl := Option.some.inj h
        exact V_ret eX6_stopOverEach_30 rfl ⟨rfl, rfl⟩
set_option maxRecDepth 20000 in
theorem ctX6_stopOverEach (l : Launch) (G : tg_G) (A : Nat → Nat) (c : SS)  {z : Int32} (h : fX6_stopOverEach c  = some z) : Mt l G yX6_stopOverEach cX6_stopOverEach 2 (some .int) (tg_R 0 0) [.ref (A 0)] (wC G A c) (fun v w1 => v = some (.int z) ∧ w1 = wC G A c) := by
  refine Mt_of2 (own := "TramGod") (nm := "stopOverEach") rfl rfl rfl (Nat.le_of_ble_eq_true rfl) (lv := [(0, .ref (A 0))]) rfl ?_
  unfold fX6_stopOverEach at h
  refine V_iconst (v := (0 : Int32)) eX6_stopOverEach_0 rfl ?_
  refine V_istore_n (lv' := [(1, .int (0 : Int32)), (0, .ref (A 0))]) eX6_stopOverEach_1 (Nat.le_of_ble_eq_true rfl) rfl ?_
  refine V_lv (lv' := [(0, .ref (A 0)), (1, .int (0 : Int32))]) [1, 0] rfl ?_
  refine ctX6_stopOverEach_L2 l G A c fu (0 : Int32) h
theorem hdX6_stopOverBreaths : yX6_stopOverBreaths.cls ≠ "java/lang/invoke/MethodHandle" ∧ yX6_stopOverBreaths.cls ≠ "java/lang/invoke/VarHandle" ∧ (parseMethodDescriptor yX6_stopOverBreaths.desc).map (fun d => d.parameters.length) = some 0 := by decide +kernel
theorem eX6_stopOverBreaths_0 : Dc cX6_stopOverBreaths 0 (.iconst 0) 1 1 := ⟨by decide +kernel, rfl⟩
theorem eX6_stopOverBreaths_1 : Dc cX6_stopOverBreaths 1 (.istore_n 1) 1 2 := ⟨by decide +kernel, rfl⟩
theorem eX6_stopOverBreaths_2 : Dc cX6_stopOverBreaths 2 (.iconst 0) 1 3 := ⟨by decide +kernel, rfl⟩
theorem eX6_stopOverBreaths_3 : Dc cX6_stopOverBreaths 3 (.istore_n 2) 1 4 := ⟨by decide +kernel, rfl⟩
theorem eX6_stopOverBreaths_4 : Dc cX6_stopOverBreaths 4 (.iload_n 2) 1 5 := ⟨by decide +kernel, rfl⟩
theorem eX6_stopOverBreaths_5 : Dc cX6_stopOverBreaths 5 (.aload_n 0) 1 6 := ⟨by decide +kernel, rfl⟩
theorem eX6_stopOverBreaths_6 : Dc cX6_stopOverBreaths 6 (.getfield 19) 3 9 := ⟨by decide +kernel, rfl⟩
theorem eX6_stopOverBreaths_9 : Dc cX6_stopOverBreaths 9 (.getfield 84) 3 12 := ⟨by decide +kernel, rfl⟩
theorem eX6_stopOverBreaths_12 : Dc cX6_stopOverBreaths 12 (.if_icmp .ge 31) 3 15 := ⟨by decide +kernel, rfl⟩
theorem eX6_stopOverBreaths_15 : Dc cX6_stopOverBreaths 15 (.iload_n 1) 1 16 := ⟨by decide +kernel, rfl⟩
theorem eX6_stopOverBreaths_16 : Dc cX6_stopOverBreaths 16 (.aload_n 0) 1 17 := ⟨by decide +kernel, rfl⟩
theorem eX6_stopOverBreaths_17 : Dc cX6_stopOverBreaths 17 (.getfield 61) 3 20 := ⟨by decide +kernel, rfl⟩
theorem eX6_stopOverBreaths_20 : Dc cX6_stopOverBreaths 20 (.iload_n 2) 1 21 := ⟨by decide +kernel, rfl⟩
theorem eX6_stopOverBreaths_21 : Dc cX6_stopOverBreaths 21 (.iaload) 1 22 := ⟨by decide +kernel, rfl⟩
theorem eX6_stopOverBreaths_22 : Dc cX6_stopOverBreaths 22 (.iadd) 1 23 := ⟨by decide +kernel, rfl⟩
theorem eX6_stopOverBreaths_23 : Dc cX6_stopOverBreaths 23 (.istore_n 1) 1 24 := ⟨by decide +kernel, rfl⟩
theorem eX6_stopOverBreaths_24 : Dc cX6_stopOverBreaths 24 (.iload_n 1) 1 25 := ⟨by decide +kernel, rfl⟩
theorem eX6_stopOverBreaths_25 : Dc cX6_stopOverBreaths 25 (.aload_n 0) 1 26 := ⟨by decide +kernel, rfl⟩
theorem eX6_stopOverBreaths_26 : Dc cX6_stopOverBreaths 26 (.getfield 19) 3 29 := ⟨by decide +kernel, rfl⟩
theorem eX6_stopOverBreaths_29 : Dc cX6_stopOverBreaths 29 (.getfield 130) 3 32 := ⟨by decide +kernel, rfl⟩
theorem eX6_stopOverBreaths_32 : Dc cX6_stopOverBreaths 32 (.if_icmp .le 5) 3 35 := ⟨by decide +kernel, rfl⟩
theorem eX6_stopOverBreaths_35 : Dc cX6_stopOverBreaths 35 (.iload_n 2) 1 36 := ⟨by decide +kernel, rfl⟩
theorem eX6_stopOverBreaths_36 : Dc cX6_stopOverBreaths 36 (.ireturn) 1 37 := ⟨by decide +kernel, rfl⟩
theorem eX6_stopOverBreaths_37 : Dc cX6_stopOverBreaths 37 (.iinc 2 1) 3 40 := ⟨by decide +kernel, rfl⟩
theorem eX6_stopOverBreaths_40 : Dc cX6_stopOverBreaths 40 (.goto (-36)) 3 43 := ⟨by decide +kernel, rfl⟩
theorem eX6_stopOverBreaths_43 : Dc cX6_stopOverBreaths 43 (.bipush (-6)) 2 45 := ⟨by decide +kernel, rfl⟩
theorem eX6_stopOverBreaths_45 : Dc cX6_stopOverBreaths 45 (.ireturn) 1 46 := ⟨by decide +kernel, rfl⟩
def fX6_stopOverBreaths_L4  (c : SS)  : Nat → Int32 → Int32 → Option (Int32)
  | 0, _, _ => none
  | n + 1, a1, a2 => if (c.1 1) ≤ a2 then some (-6 : Int32) else ald 6 (c.2 19) a2 (fun v2 => if (a1 + v2) ≤ (c.1 3) then fX6_stopOverBreaths_L4 c n (a1 + v2) (a2 + (1 : Int32)) else some a2)
def fX6_stopOverBreaths (c : SS)  : Option (Int32) := fX6_stopOverBreaths_L4 c fu (0 : Int32) (0 : Int32)
set_option maxRecDepth 20000 in
theorem ctX6_stopOverBreaths_L4 (l : Launch) (G : tg_G) (A : Nat → Nat)  (c : SS)  {z : Int32}  : ∀ (n : Nat) (a1 : Int32) (a2 : Int32), fX6_stopOverBreaths_L4 c n a1 a2 = some z → V l G (tg_Zm G (fun v w1 => v = some (.int z) ∧ w1 = wC G A c) 0 0) tg_E0 (tg_R 0 0) "TramGod" "stopOverBreaths" cX6_stopOverBreaths 3 (some .int) 4 [(0, .ref (A 0)), (1, .int a1), (2, .int a2)] [] (wC G A c) 0 0 := by
  intro n
  induction n with
  | zero => intro a1 a2 h; exact absurd h (by simp [fX6_stopOverBreaths_L4])
  | succ n ih =>
    intro a1 a2 h
    unfold fX6_stopOverBreaths_L4 at h
    refine V_iload_n eX6_stopOverBreaths_4 2 rfl ?_
    refine V_aload_n eX6_stopOverBreaths_5 0 rfl ?_
    refine V_get (v := .ref (A 3)) eX6_stopOverBreaths_6 inX6 0 rfl rfl 1 (Nat.le_of_ble_eq_true rfl) tw_208 rfl ?_
    refine V_get (v := .int (c.1 1)) eX6_stopOverBreaths_9 inX5 3 rfl rfl 0 (Nat.le_of_ble_eq_true rfl) tw_44 rfl ?_
    refine V_icmp_ge (tgt := 43) eX6_stopOverBreaths_12 rfl (fun hb1 => ?_) (fun hb1 => ?_)
    · replace h := (if_pos hb1).symm.trans h
      refine V_bipush (v := (-6 : Int32)) eX6_stopOverBreaths_43 rfl ?_
      obtain rfl := Option.some.inj h
      exact V_ret eX6_stopOverBreaths_45 rfl ⟨rfl, rfl⟩
    · replace h := (if_neg hb1).symm.trans h
      refine V_iload_n eX6_stopOverBreaths_15 1 rfl ?_
      refine V_aload_n eX6_stopOverBreaths_16 0 rfl ?_
      refine V_get (v := .ref (A 26)) eX6_stopOverBreaths_17 inX6 0 rfl rfl 7 (Nat.le_of_ble_eq_true rfl) tw_214 rfl ?_
      refine V_iload_n eX6_stopOverBreaths_20 2 rfl ?_
      obtain ⟨v2, hi2, ev2, h⟩ := ald_some h
      refine V_ialdv eX6_stopOverBreaths_21 26 rfl hi2 ev2 ?_
      refine V_iadd eX6_stopOverBreaths_22 ?_
      refine V_istore_n (lv' := [(1, .int (a1 + v2)), (0, .ref (A 0)), (2, .int a2)]) eX6_stopOverBreaths_23 (Nat.le_of_ble_eq_true rfl) rfl ?_
      refine V_iload_n eX6_stopOverBreaths_24 0 rfl ?_
      refine V_aload_n eX6_stopOverBreaths_25 1 rfl ?_
      refine V_get (v := .ref (A 3)) eX6_stopOverBreaths_26 inX6 0 rfl rfl 1 (Nat.le_of_ble_eq_true rfl) tw_208 rfl ?_
      refine V_get (v := .int (c.1 3)) eX6_stopOverBreaths_29 inX5 3 rfl rfl 2 (Nat.le_of_ble_eq_true rfl) tw_51 rfl ?_
      refine V_icmp_le (tgt := 37) eX6_stopOverBreaths_32 rfl (fun hb3 => ?_) (fun hb3 => ?_)
      · replace h := (if_pos hb3).symm.trans h
        refine V_iinc (v := (a2 + (1 : Int32))) (lv' := [(2, .int (a2 + (1 : Int32))), (1, .int (a1 + v2)), (0, .ref (A 0))]) eX6_stopOverBreaths_37 2 rfl rfl (Nat.le_of_ble_eq_true rfl) rfl ?_
        refine V_goto (tgt := 4) eX6_stopOverBreaths_40 rfl ?_
        refine V_lv (lv' := [(0, .ref (A 0)), (1, .int (a1 + v2)), (2, .int (a2 + (1 : Int32)))]) [2, 1, 0] rfl ?_
        exact ih (a1 + v2) (a2 + (1 : Int32)) h
      · replace h := (if_neg hb3).symm.trans h
        refine V_iload_n eX6_stopOverBreaths_35 2 rfl ?_
        obtain rfl := Option.some.inj h
        exact V_ret eX6_stopOverBreaths_36 rfl ⟨rfl, rfl⟩
set_option maxRecDepth 20000 in
theorem ctX6_stopOverBreaths (l : Launch) (G : tg_G) (A : Nat → Nat) (c : SS)  {z : Int32} (h : fX6_stopOverBreaths c  = some z) : Mt l G yX6_stopOverBreaths cX6_stopOverBreaths 3 (some .int) (tg_R 0 0) [.ref (A 0)] (wC G A c) (fun v w1 => v = some (.int z) ∧ w1 = wC G A c) := by
  refine Mt_of2 (own := "TramGod") (nm := "stopOverBreaths") rfl rfl rfl (Nat.le_of_ble_eq_true rfl) (lv := [(0, .ref (A 0))]) rfl ?_
  unfold fX6_stopOverBreaths at h
  refine V_iconst (v := (0 : Int32)) eX6_stopOverBreaths_0 rfl ?_
  refine V_istore_n (lv' := [(1, .int (0 : Int32)), (0, .ref (A 0))]) eX6_stopOverBreaths_1 (Nat.le_of_ble_eq_true rfl) rfl ?_
  refine V_iconst (v := (0 : Int32)) eX6_stopOverBreaths_2 rfl ?_
  refine V_istore_n (lv' := [(2, .int (0 : Int32)), (1, .int (0 : Int32)), (0, .ref (A 0))]) eX6_stopOverBreaths_3 (Nat.le_of_ble_eq_true rfl) rfl ?_
  refine V_lv (lv' := [(0, .ref (A 0)), (1, .int (0 : Int32)), (2, .int (0 : Int32))]) [2, 1, 0] rfl ?_
  refine ctX6_stopOverBreaths_L4 l G A c fu (0 : Int32) (0 : Int32) h
theorem hdX6_judge : yX6_judge.cls ≠ "java/lang/invoke/MethodHandle" ∧ yX6_judge.cls ≠ "java/lang/invoke/VarHandle" ∧ (parseMethodDescriptor yX6_judge.desc).map (fun d => d.parameters.length) = some 1 := by decide +kernel
theorem eX6_judge_0 : Dc cX6_judge 0 (.iload_n 1) 1 1 := ⟨by decide +kernel, rfl⟩
theorem eX6_judge_1 : Dc cX6_judge 1 (.iconst 0) 1 2 := ⟨by decide +kernel, rfl⟩
theorem eX6_judge_2 : Dc cX6_judge 2 (.iconst 1) 1 3 := ⟨by decide +kernel, rfl⟩
theorem eX6_judge_3 : Dc cX6_judge 3 (.invokestatic 68) 3 6 := ⟨by decide +kernel, rfl⟩
theorem eX6_judge_6 : Dc cX6_judge 6 (.ifCond .ne 6) 3 9 := ⟨by decide +kernel, rfl⟩
theorem eX6_judge_9 : Dc cX6_judge 9 (.bipush (-2)) 2 11 := ⟨by decide +kernel, rfl⟩
theorem eX6_judge_11 : Dc cX6_judge 11 (.ireturn) 1 12 := ⟨by decide +kernel, rfl⟩
theorem eX6_judge_12 : Dc cX6_judge 12 (.aload_n 0) 1 13 := ⟨by decide +kernel, rfl⟩
theorem eX6_judge_13 : Dc cX6_judge 13 (.invokevirtual 136) 3 16 := ⟨by decide +kernel, rfl⟩
theorem eX6_judge_16 : Dc cX6_judge 16 (.ifCond .ne 6) 3 19 := ⟨by decide +kernel, rfl⟩
theorem eX6_judge_19 : Dc cX6_judge 19 (.bipush (-5)) 2 21 := ⟨by decide +kernel, rfl⟩
theorem eX6_judge_21 : Dc cX6_judge 21 (.ireturn) 1 22 := ⟨by decide +kernel, rfl⟩
theorem eX6_judge_22 : Dc cX6_judge 22 (.aload_n 0) 1 23 := ⟨by decide +kernel, rfl⟩
theorem eX6_judge_23 : Dc cX6_judge 23 (.invokevirtual 140) 3 26 := ⟨by decide +kernel, rfl⟩
theorem eX6_judge_26 : Dc cX6_judge 26 (.istore_n 2) 1 27 := ⟨by decide +kernel, rfl⟩
theorem eX6_judge_27 : Dc cX6_judge 27 (.iload_n 2) 1 28 := ⟨by decide +kernel, rfl⟩
theorem eX6_judge_28 : Dc cX6_judge 28 (.bipush (-6)) 2 30 := ⟨by decide +kernel, rfl⟩
theorem eX6_judge_30 : Dc cX6_judge 30 (.if_icmp .eq 13) 3 33 := ⟨by decide +kernel, rfl⟩
theorem eX6_judge_33 : Dc cX6_judge 33 (.iload_n 1) 1 34 := ⟨by decide +kernel, rfl⟩
theorem eX6_judge_34 : Dc cX6_judge 34 (.ifCond .ne 7) 3 37 := ⟨by decide +kernel, rfl⟩
theorem eX6_judge_37 : Dc cX6_judge 37 (.iload_n 2) 1 38 := ⟨by decide +kernel, rfl⟩
theorem eX6_judge_38 : Dc cX6_judge 38 (.goto 4) 3 41 := ⟨by decide +kernel, rfl⟩
theorem eX6_judge_41 : Dc cX6_judge 41 (.iconst 1) 1 42 := ⟨by decide +kernel, rfl⟩
theorem eX6_judge_42 : Dc cX6_judge 42 (.ireturn) 1 43 := ⟨by decide +kernel, rfl⟩
theorem eX6_judge_43 : Dc cX6_judge 43 (.aload_n 0) 1 44 := ⟨by decide +kernel, rfl⟩
theorem eX6_judge_44 : Dc cX6_judge 44 (.invokevirtual 144) 3 47 := ⟨by decide +kernel, rfl⟩
theorem eX6_judge_47 : Dc cX6_judge 47 (.istore_n 3) 1 48 := ⟨by decide +kernel, rfl⟩
theorem eX6_judge_48 : Dc cX6_judge 48 (.iload_n 3) 1 49 := ⟨by decide +kernel, rfl⟩
theorem eX6_judge_49 : Dc cX6_judge 49 (.bipush (-6)) 2 51 := ⟨by decide +kernel, rfl⟩
theorem eX6_judge_51 : Dc cX6_judge 51 (.if_icmp .eq 7) 3 54 := ⟨by decide +kernel, rfl⟩
theorem eX6_judge_54 : Dc cX6_judge 54 (.iload_n 1) 1 55 := ⟨by decide +kernel, rfl⟩
theorem eX6_judge_55 : Dc cX6_judge 55 (.ifCond .ne 7) 3 58 := ⟨by decide +kernel, rfl⟩
theorem eX6_judge_58 : Dc cX6_judge 58 (.iload_n 3) 1 59 := ⟨by decide +kernel, rfl⟩
theorem eX6_judge_59 : Dc cX6_judge 59 (.goto 4) 3 62 := ⟨by decide +kernel, rfl⟩
theorem eX6_judge_62 : Dc cX6_judge 62 (.iconst 2) 1 63 := ⟨by decide +kernel, rfl⟩
theorem eX6_judge_63 : Dc cX6_judge 63 (.ireturn) 1 64 := ⟨by decide +kernel, rfl⟩
def fX6_judge (c : SS) (p1 : Int32) : Option (Int32 × SS) := if (fX6_within p1 (0 : Int32) (1 : Int32)) = (0 : Int32) then some ((-2 : Int32), c) else Option.bind (fX6_readHold c) (fun q2 => if q2.1 = (0 : Int32) then some ((-5 : Int32), q2.2) else Option.bind (fX6_stopOverEach q2.2) (fun q4 => if q4 = (-6 : Int32) then Option.bind (fX6_stopOverBreaths q2.2) (fun q6 => if q6 = (-6 : Int32) then some (q6, q2.2) else if p1 = (0 : Int32) then some (q6, q2.2) else some ((2 : Int32), q2.2)) else if p1 = (0 : Int32) then some (q4, q2.2) else some ((1 : Int32), q2.2)))
set_option maxRecDepth 20000 in
theorem ctX6_judge (l : Launch) (G : tg_G) (A : Nat → Nat) (c : SS) (p1 : Int32) {z : Int32 × SS} (h : fX6_judge c p1 = some z) : Mt l G yX6_judge cX6_judge 4 (some .int) (tg_R 3 66) [.ref (A 0), .int p1] (wC G A c) (fun v w1 => v = some (.int z.1) ∧ w1 = wC G A z.2) := by
  refine Mt_of2 (own := "TramGod") (nm := "judge") rfl rfl rfl (Nat.le_of_ble_eq_true rfl) (lv := [(0, .ref (A 0)), (1, .int p1)]) rfl ?_
  unfold fX6_judge at h
  refine V_iload_n eX6_judge_0 1 rfl ?_
  refine V_iconst (v := (0 : Int32)) eX6_judge_1 rfl ?_
  refine V_iconst (v := (1 : Int32)) eX6_judge_2 rfl ?_
  refine V_callSi (rest := []) eX6_judge_3 (ctX6_within l G _ p1 (0 : Int32) (1 : Int32) rfl) tc_241 tw_239 tw_1 tw_240 hdX6_within rfl ⟨Nat.le_of_ble_eq_true rfl, Nat.le_of_ble_eq_true rfl⟩ rfl (Nat.le_of_ble_eq_true rfl) ⟨Nat.zero_le _, Nat.zero_le _⟩ ?_
  refine V_if_ne (tgt := 12) eX6_judge_6 rfl (fun hb1 => ?_) (fun hb1 => ?_)
  · replace h := (if_neg hb1).symm.trans h
    refine V_aload_n eX6_judge_12 0 rfl ?_
    obtain ⟨q2, hc2, h⟩ := Option.bind_eq_some_iff.mp h
    refine V_callVi (rest := []) eX6_judge_13 (ctX6_readHold l G A c hc2) tc_327 tw_324 tw_1 tw_326 ts_0 0 rfl rfl hdX6_readHold rfl ⟨Nat.le_of_ble_eq_true rfl, Nat.le_of_ble_eq_true rfl⟩ rfl (Nat.le_of_ble_eq_true rfl) ⟨Nat.zero_le _, Nat.zero_le _⟩ ?_
    refine V_if_ne (tgt := 22) eX6_judge_16 rfl (fun hb3 => ?_) (fun hb3 => ?_)
    · replace h := (if_neg hb3).symm.trans h
      refine V_aload_n eX6_judge_22 0 rfl ?_
      obtain ⟨q4, hc4, h⟩ := Option.bind_eq_some_iff.mp h
      refine V_callVi (rest := []) eX6_judge_23 (ctX6_stopOverEach l G A q2.2 hc4) tc_336 tw_333 tw_1 tw_335 ts_1 0 rfl rfl hdX6_stopOverEach rfl ⟨Nat.le_of_ble_eq_true rfl, Nat.le_of_ble_eq_true rfl⟩ rfl (Nat.le_of_ble_eq_true rfl) ⟨Nat.zero_le _, Nat.zero_le _⟩ ?_
      refine V_istore_n (lv' := [(2, .int q4), (0, .ref (A 0)), (1, .int p1)]) eX6_judge_26 (Nat.le_of_ble_eq_true rfl) rfl ?_
      refine V_iload_n eX6_judge_27 0 rfl ?_
      refine V_bipush (v := (-6 : Int32)) eX6_judge_28 rfl ?_
      refine V_icmp_eq (tgt := 43) eX6_judge_30 rfl (fun hb5 => ?_) (fun hb5 => ?_)
      · replace h := (if_pos hb5).symm.trans h
        refine V_aload_n eX6_judge_43 1 rfl ?_
        obtain ⟨q6, hc6, h⟩ := Option.bind_eq_some_iff.mp h
        refine V_callVi (rest := []) eX6_judge_44 (ctX6_stopOverBreaths l G A q2.2 hc6) tc_340 tw_337 tw_1 tw_339 ts_2 0 rfl rfl hdX6_stopOverBreaths rfl ⟨Nat.le_of_ble_eq_true rfl, Nat.le_of_ble_eq_true rfl⟩ rfl (Nat.le_of_ble_eq_true rfl) ⟨Nat.zero_le _, Nat.zero_le _⟩ ?_
        refine V_istore_n (lv' := [(3, .int q6), (2, .int q4), (0, .ref (A 0)), (1, .int p1)]) eX6_judge_47 (Nat.le_of_ble_eq_true rfl) rfl ?_
        refine V_iload_n eX6_judge_48 0 rfl ?_
        refine V_bipush (v := (-6 : Int32)) eX6_judge_49 rfl ?_
        refine V_icmp_eq (tgt := 58) eX6_judge_51 rfl (fun hb7 => ?_) (fun hb7 => ?_)
        · replace h := (if_pos hb7).symm.trans h
          refine V_iload_n eX6_judge_58 0 rfl ?_
          refine V_goto (tgt := 63) eX6_judge_59 rfl ?_
          obtain rfl := Option.some.inj h
          exact V_ret eX6_judge_63 rfl ⟨rfl, rfl⟩
        · replace h := (if_neg hb7).symm.trans h
          refine V_iload_n eX6_judge_54 3 rfl ?_
          refine V_if_ne (tgt := 62) eX6_judge_55 rfl (fun hb8 => ?_) (fun hb8 => ?_)
          · replace h := (if_neg hb8).symm.trans h
            refine V_iconst (v := (2 : Int32)) eX6_judge_62 rfl ?_
            obtain rfl := Option.some.inj h
            exact V_ret eX6_judge_63 rfl ⟨rfl, rfl⟩
          · replace h := (if_pos hb8).symm.trans h
            refine V_iload_n eX6_judge_58 0 rfl ?_
            refine V_goto (tgt := 63) eX6_judge_59 rfl ?_
            obtain rfl := Option.some.inj h
            exact V_ret eX6_judge_63 rfl ⟨rfl, rfl⟩
      · replace h := (if_neg hb5).symm.trans h
        refine V_iload_n eX6_judge_33 2 rfl ?_
        refine V_if_ne (tgt := 41) eX6_judge_34 rfl (fun hb9 => ?_) (fun hb9 => ?_)
        · replace h := (if_neg hb9).symm.trans h
          refine V_iconst (v := (1 : Int32)) eX6_judge_41 rfl ?_
          obtain rfl := Option.some.inj h
          exact V_ret eX6_judge_42 rfl ⟨rfl, rfl⟩
        · replace h := (if_pos hb9).symm.trans h
          refine V_iload_n eX6_judge_37 0 rfl ?_
          refine V_goto (tgt := 42) eX6_judge_38 rfl ?_
          obtain rfl := Option.some.inj h
          exact V_ret eX6_judge_42 rfl ⟨rfl, rfl⟩
    · replace h := (if_pos hb3).symm.trans h
      refine V_bipush (v := (-5 : Int32)) eX6_judge_19 rfl ?_
      obtain rfl := Option.some.inj h
      exact V_ret eX6_judge_21 rfl ⟨rfl, rfl⟩
  · replace h := (if_pos hb1).symm.trans h
    refine V_bipush (v := (-2 : Int32)) eX6_judge_9 rfl ?_
    obtain rfl := Option.some.inj h
    exact V_ret eX6_judge_11 rfl ⟨rfl, rfl⟩
theorem hdX5_departs : yX5_departs.cls ≠ "java/lang/invoke/MethodHandle" ∧ yX5_departs.cls ≠ "java/lang/invoke/VarHandle" ∧ (parseMethodDescriptor yX5_departs.desc).map (fun d => d.parameters.length) = some 2 := by decide +kernel
theorem eX5_departs_0 : Dc cX5_departs 0 (.iconst 0) 1 1 := ⟨by decide +kernel, rfl⟩
theorem eX5_departs_1 : Dc cX5_departs 1 (.istore_n 3) 1 2 := ⟨by decide +kernel, rfl⟩
theorem eX5_departs_2 : Dc cX5_departs 2 (.iconst 0) 1 3 := ⟨by decide +kernel, rfl⟩
theorem eX5_departs_3 : Dc cX5_departs 3 (.istore 4) 2 5 := ⟨by decide +kernel, rfl⟩
theorem eX5_departs_5 : Dc cX5_departs 5 (.iload 4) 2 7 := ⟨by decide +kernel, rfl⟩
theorem eX5_departs_7 : Dc cX5_departs 7 (.iload_n 1) 1 8 := ⟨by decide +kernel, rfl⟩
theorem eX5_departs_8 : Dc cX5_departs 8 (.if_icmp .gt 55) 3 11 := ⟨by decide +kernel, rfl⟩
theorem eX5_departs_11 : Dc cX5_departs 11 (.iload 4) 2 13 := ⟨by decide +kernel, rfl⟩
theorem eX5_departs_13 : Dc cX5_departs 13 (.bipush 6) 2 15 := ⟨by decide +kernel, rfl⟩
theorem eX5_departs_15 : Dc cX5_departs 15 (.if_icmp .ge 48) 3 18 := ⟨by decide +kernel, rfl⟩
theorem eX5_departs_18 : Dc cX5_departs 18 (.iload_n 3) 1 19 := ⟨by decide +kernel, rfl⟩
theorem eX5_departs_19 : Dc cX5_departs 19 (.aload_n 0) 1 20 := ⟨by decide +kernel, rfl⟩
theorem eX5_departs_20 : Dc cX5_departs 20 (.getfield 21) 3 23 := ⟨by decide +kernel, rfl⟩
theorem eX5_departs_23 : Dc cX5_departs 23 (.iload 4) 2 25 := ⟨by decide +kernel, rfl⟩
theorem eX5_departs_25 : Dc cX5_departs 25 (.iaload) 1 26 := ⟨by decide +kernel, rfl⟩
theorem eX5_departs_26 : Dc cX5_departs 26 (.iadd) 1 27 := ⟨by decide +kernel, rfl⟩
theorem eX5_departs_27 : Dc cX5_departs 27 (.istore_n 3) 1 28 := ⟨by decide +kernel, rfl⟩
theorem eX5_departs_28 : Dc cX5_departs 28 (.iload 4) 2 30 := ⟨by decide +kernel, rfl⟩
theorem eX5_departs_30 : Dc cX5_departs 30 (.iload_n 1) 1 31 := ⟨by decide +kernel, rfl⟩
theorem eX5_departs_31 : Dc cX5_departs 31 (.if_icmp .ge 26) 3 34 := ⟨by decide +kernel, rfl⟩
theorem eX5_departs_34 : Dc cX5_departs 34 (.iload_n 2) 1 35 := ⟨by decide +kernel, rfl⟩
theorem eX5_departs_35 : Dc cX5_departs 35 (.iload 4) 2 37 := ⟨by decide +kernel, rfl⟩
theorem eX5_departs_37 : Dc cX5_departs 37 (.ishr) 1 38 := ⟨by decide +kernel, rfl⟩
theorem eX5_departs_38 : Dc cX5_departs 38 (.iconst 1) 1 39 := ⟨by decide +kernel, rfl⟩
theorem eX5_departs_39 : Dc cX5_departs 39 (.iand) 1 40 := ⟨by decide +kernel, rfl⟩
theorem eX5_departs_40 : Dc cX5_departs 40 (.iconst 1) 1 41 := ⟨by decide +kernel, rfl⟩
theorem eX5_departs_41 : Dc cX5_departs 41 (.if_icmp .ne 16) 3 44 := ⟨by decide +kernel, rfl⟩
theorem eX5_departs_44 : Dc cX5_departs 44 (.aload_n 0) 1 45 := ⟨by decide +kernel, rfl⟩
theorem eX5_departs_45 : Dc cX5_departs 45 (.getfield 21) 3 48 := ⟨by decide +kernel, rfl⟩
theorem eX5_departs_48 : Dc cX5_departs 48 (.iload 4) 2 50 := ⟨by decide +kernel, rfl⟩
theorem eX5_departs_50 : Dc cX5_departs 50 (.iaload) 1 51 := ⟨by decide +kernel, rfl⟩
theorem eX5_departs_51 : Dc cX5_departs 51 (.ifCond .le 6) 3 54 := ⟨by decide +kernel, rfl⟩
theorem eX5_departs_54 : Dc cX5_departs 54 (.iinc 3 (-1)) 3 57 := ⟨by decide +kernel, rfl⟩
theorem eX5_departs_57 : Dc cX5_departs 57 (.iinc 4 1) 3 60 := ⟨by decide +kernel, rfl⟩
theorem eX5_departs_60 : Dc cX5_departs 60 (.goto (-55)) 3 63 := ⟨by decide +kernel, rfl⟩
theorem eX5_departs_63 : Dc cX5_departs 63 (.iload_n 3) 1 64 := ⟨by decide +kernel, rfl⟩
theorem eX5_departs_64 : Dc cX5_departs 64 (.ireturn) 1 65 := ⟨by decide +kernel, rfl⟩
def fX5_departs_L5  (c : SS) (a1 : Int32) (a2 : Int32) : Nat → Int32 → Int32 → Option (Int32)
  | 0, _, _ => none
  | n + 1, a3, a4 => if a1 < a4 then some a3 else if (6 : Int32) ≤ a4 then some a3 else ald 6 (c.2 1) a4 (fun v3 => jn (fun (x4 : Int32) => fX5_departs_L5 c a1 a2 n x4 (a4 + (1 : Int32))) (fun j57 => if a1 ≤ a4 then j57 (a3 + v3) else if ((a2 >>> (a4 &&& 31)) &&& (1 : Int32)) = (1 : Int32) then ald 6 (c.2 1) a4 (fun v7 => if v7 ≤ (0 : Int32) then j57 (a3 + v3) else j57 ((a3 + v3) + (-1 : Int32))) else j57 (a3 + v3)))
def fX5_departs (c : SS) (p1 : Int32) (p2 : Int32) : Option (Int32) := fX5_departs_L5 c p1 p2 fu (0 : Int32) (0 : Int32)
set_option maxRecDepth 20000 in
theorem ctX5_departs_L5 (l : Launch) (G : tg_G) (A : Nat → Nat)  (c : SS) (a1 : Int32) (a2 : Int32) {z : Int32}  : ∀ (n : Nat) (a3 : Int32) (a4 : Int32), fX5_departs_L5 c a1 a2 n a3 a4 = some z → V l G (tg_Zm G (fun v w1 => v = some (.int z) ∧ w1 = wC G A c) 0 0) tg_E0 (tg_R 0 0) "TramGod$World" "departs" cX5_departs 5 (some .int) 5 [(0, .ref (A 3)), (1, .int a1), (2, .int a2), (3, .int a3), (4, .int a4)] [] (wC G A c) 0 0 := by
  intro n
  induction n with
  | zero => intro a3 a4 h; exact absurd h (by simp [fX5_departs_L5])
  | succ n ih =>
    intro a3 a4 h
    unfold fX5_departs_L5 at h
    refine V_iload eX5_departs_5 4 rfl ?_
    refine V_iload_n eX5_departs_7 1 rfl ?_
    refine V_icmp_gt (tgt := 63) eX5_departs_8 rfl (fun hb1 => ?_) (fun hb1 => ?_)
    · replace h := (if_pos hb1).symm.trans h
      refine V_iload_n eX5_departs_63 3 rfl ?_
      obtain rfl := Option.some.inj h
      exact V_ret eX5_departs_64 rfl ⟨rfl, rfl⟩
    · replace h := (if_neg hb1).symm.trans h
      refine V_iload eX5_departs_11 4 rfl ?_
      refine V_bipush (v := (6 : Int32)) eX5_departs_13 rfl ?_
      refine V_icmp_ge (tgt := 63) eX5_departs_15 rfl (fun hb2 => ?_) (fun hb2 => ?_)
      · replace h := (if_pos hb2).symm.trans h
        refine V_iload_n eX5_departs_63 3 rfl ?_
        obtain rfl := Option.some.inj h
        exact V_ret eX5_departs_64 rfl ⟨rfl, rfl⟩
      · replace h := (if_neg hb2).symm.trans h
        refine V_iload_n eX5_departs_18 3 rfl ?_
        refine V_aload_n eX5_departs_19 0 rfl ?_
        refine V_get (v := .ref (A 4)) eX5_departs_20 inX5 3 rfl rfl 8 (Nat.le_of_ble_eq_true rfl) tw_62 rfl ?_
        refine V_iload eX5_departs_23 4 rfl ?_
        obtain ⟨v3, hi3, ev3, h⟩ := ald_some h
        refine V_ialdv eX5_departs_25 4 rfl hi3 ev3 ?_
        refine V_iadd eX5_departs_26 ?_
        refine V_istore_n (lv' := [(3, .int (a3 + v3)), (0, .ref (A 3)), (1, .int a1), (2, .int a2), (4, .int a4)]) eX5_departs_27 (Nat.le_of_ble_eq_true rfl) rfl ?_
        refine V_iload eX5_departs_28 4 rfl ?_
        refine V_iload_n eX5_departs_30 2 rfl ?_
        refine jn_elim h (fun j => ∀ (x4 : Int32), j x4 = some z → V l G (tg_Zm G (fun v w1 => v = some (.int z) ∧ w1 = wC G A c) 0 0) tg_E0 (tg_R 0 0) "TramGod$World" "departs" cX5_departs 5 (some .int) 57 [(0, .ref (A 3)), (1, .int a1), (2, .int a2), (3, .int x4), (4, .int a4)] [] (wC G A c) 0 0) ?_ (fun j57 hj57 h => ?_)
        · intro x4 h
          refine V_iinc (v := (a4 + (1 : Int32))) (lv' := [(4, .int (a4 + (1 : Int32))), (0, .ref (A 3)), (1, .int a1), (2, .int a2), (3, .int x4)]) eX5_departs_57 4 rfl rfl (Nat.le_of_ble_eq_true rfl) rfl ?_
          refine V_goto (tgt := 5) eX5_departs_60 rfl ?_
          refine V_lv (lv' := [(0, .ref (A 3)), (1, .int a1), (2, .int a2), (3, .int x4), (4, .int (a4 + (1 : Int32)))]) [1, 2, 3, 4, 0] rfl ?_
          exact ih x4 (a4 + (1 : Int32)) h
        refine V_icmp_ge (tgt := 57) eX5_departs_31 rfl (fun hb5 => ?_) (fun hb5 => ?_)
        · replace h := (if_pos hb5).symm.trans h
          refine V_lv (lv' := [(0, .ref (A 3)), (1, .int a1), (2, .int a2), (3, .int (a3 + v3)), (4, .int a4)]) [1, 2, 3, 0, 4] rfl ?_
          exact hj57 (a3 + v3) h
        · replace h := (if_neg hb5).symm.trans h
          refine V_iload_n eX5_departs_34 3 rfl ?_
          refine V_iload eX5_departs_35 4 rfl ?_
          refine V_ishr eX5_departs_37 ?_
          refine V_iconst (v := (1 : Int32)) eX5_departs_38 rfl ?_
          refine V_iand eX5_departs_39 ?_
          refine V_iconst (v := (1 : Int32)) eX5_departs_40 rfl ?_
          refine V_icmp_ne (tgt := 57) eX5_departs_41 rfl (fun hb6 => ?_) (fun hb6 => ?_)
          · replace h := (if_neg hb6).symm.trans h
            refine V_lv (lv' := [(0, .ref (A 3)), (1, .int a1), (2, .int a2), (3, .int (a3 + v3)), (4, .int a4)]) [1, 2, 3, 0, 4] rfl ?_
            exact hj57 (a3 + v3) h
          · replace h := (if_pos hb6).symm.trans h
            refine V_aload_n eX5_departs_44 1 rfl ?_
            refine V_get (v := .ref (A 4)) eX5_departs_45 inX5 3 rfl rfl 8 (Nat.le_of_ble_eq_true rfl) tw_62 rfl ?_
            refine V_iload eX5_departs_48 4 rfl ?_
            obtain ⟨v7, hi7, ev7, h⟩ := ald_some h
            refine V_ialdv eX5_departs_50 4 rfl hi7 ev7 ?_
            refine V_if_le (tgt := 57) eX5_departs_51 rfl (fun hb8 => ?_) (fun hb8 => ?_)
            · replace h := (if_pos hb8).symm.trans h
              refine V_lv (lv' := [(0, .ref (A 3)), (1, .int a1), (2, .int a2), (3, .int (a3 + v3)), (4, .int a4)]) [1, 2, 3, 0, 4] rfl ?_
              exact hj57 (a3 + v3) h
            · replace h := (if_neg hb8).symm.trans h
              refine V_iinc (v := ((a3 + v3) + (-1 : Int32))) (lv' := [(3, .int ((a3 + v3) + (-1 : Int32))), (0, .ref (A 3)), (1, .int a1), (2, .int a2), (4, .int a4)]) eX5_departs_54 0 rfl rfl (Nat.le_of_ble_eq_true rfl) rfl ?_
              refine V_lv (lv' := [(0, .ref (A 3)), (1, .int a1), (2, .int a2), (3, .int ((a3 + v3) + (-1 : Int32))), (4, .int a4)]) [1, 2, 3, 0, 4] rfl ?_
              exact hj57 ((a3 + v3) + (-1 : Int32)) h
set_option maxRecDepth 20000 in
theorem ctX5_departs (l : Launch) (G : tg_G) (A : Nat → Nat) (c : SS) (p1 : Int32) (p2 : Int32) {z : Int32} (h : fX5_departs c p1 p2 = some z) : Mt l G yX5_departs cX5_departs 5 (some .int) (tg_R 0 0) [.ref (A 3), .int p1, .int p2] (wC G A c) (fun v w1 => v = some (.int z) ∧ w1 = wC G A c) := by
  refine Mt_of2 (own := "TramGod$World") (nm := "departs") rfl rfl rfl (Nat.le_of_ble_eq_true rfl) (lv := [(0, .ref (A 3)), (1, .int p1), (2, .int p2)]) rfl ?_
  unfold fX5_departs at h
  refine V_iconst (v := (0 : Int32)) eX5_departs_0 rfl ?_
  refine V_istore_n (lv' := [(3, .int (0 : Int32)), (0, .ref (A 3)), (1, .int p1), (2, .int p2)]) eX5_departs_1 (Nat.le_of_ble_eq_true rfl) rfl ?_
  refine V_iconst (v := (0 : Int32)) eX5_departs_2 rfl ?_
  refine V_istore (lv' := [(4, .int (0 : Int32)), (3, .int (0 : Int32)), (0, .ref (A 3)), (1, .int p1), (2, .int p2)]) eX5_departs_3 (Nat.le_of_ble_eq_true rfl) rfl ?_
  refine V_lv (lv' := [(0, .ref (A 3)), (1, .int p1), (2, .int p2), (3, .int (0 : Int32)), (4, .int (0 : Int32))]) [2, 3, 4, 1, 0] rfl ?_
  refine ctX5_departs_L5 l G A c p1 p2 fu (0 : Int32) (0 : Int32) h
theorem hdX4_measure : yX4_measure.cls ≠ "java/lang/invoke/MethodHandle" ∧ yX4_measure.cls ≠ "java/lang/invoke/VarHandle" ∧ (parseMethodDescriptor yX4_measure.desc).map (fun d => d.parameters.length) = some 1 := by decide +kernel
theorem eX4_measure_0 : Dc cX4_measure 0 (.iconst 0) 1 1 := ⟨by decide +kernel, rfl⟩
theorem eX4_measure_1 : Dc cX4_measure 1 (.istore_n 2) 1 2 := ⟨by decide +kernel, rfl⟩
theorem eX4_measure_2 : Dc cX4_measure 2 (.iload_n 2) 1 3 := ⟨by decide +kernel, rfl⟩
theorem eX4_measure_3 : Dc cX4_measure 3 (.bipush 8) 2 5 := ⟨by decide +kernel, rfl⟩
theorem eX4_measure_5 : Dc cX4_measure 5 (.if_icmp .ge 82) 3 8 := ⟨by decide +kernel, rfl⟩
theorem eX4_measure_8 : Dc cX4_measure 8 (.aload_n 0) 1 9 := ⟨by decide +kernel, rfl⟩
theorem eX4_measure_9 : Dc cX4_measure 9 (.getfield 15) 3 12 := ⟨by decide +kernel, rfl⟩
theorem eX4_measure_12 : Dc cX4_measure 12 (.getfield 19) 3 15 := ⟨by decide +kernel, rfl⟩
theorem eX4_measure_15 : Dc cX4_measure 15 (.iload_n 2) 1 16 := ⟨by decide +kernel, rfl⟩
theorem eX4_measure_16 : Dc cX4_measure 16 (.iaload) 1 17 := ⟨by decide +kernel, rfl⟩
theorem eX4_measure_17 : Dc cX4_measure 17 (.istore_n 3) 1 18 := ⟨by decide +kernel, rfl⟩
theorem eX4_measure_18 : Dc cX4_measure 18 (.aload_n 0) 1 19 := ⟨by decide +kernel, rfl⟩
theorem eX4_measure_19 : Dc cX4_measure 19 (.getfield 15) 3 22 := ⟨by decide +kernel, rfl⟩
theorem eX4_measure_22 : Dc cX4_measure 22 (.iload_n 2) 1 23 := ⟨by decide +kernel, rfl⟩
theorem eX4_measure_23 : Dc cX4_measure 23 (.invokevirtual 24) 3 26 := ⟨by decide +kernel, rfl⟩
theorem eX4_measure_26 : Dc cX4_measure 26 (.ifCond .eq 12) 3 29 := ⟨by decide +kernel, rfl⟩
theorem eX4_measure_29 : Dc cX4_measure 29 (.iload_n 1) 1 30 := ⟨by decide +kernel, rfl⟩
theorem eX4_measure_30 : Dc cX4_measure 30 (.iload_n 3) 1 31 := ⟨by decide +kernel, rfl⟩
theorem eX4_measure_31 : Dc cX4_measure 31 (.ishr) 1 32 := ⟨by decide +kernel, rfl⟩
theorem eX4_measure_32 : Dc cX4_measure 32 (.iconst 1) 1 33 := ⟨by decide +kernel, rfl⟩
theorem eX4_measure_33 : Dc cX4_measure 33 (.iand) 1 34 := ⟨by decide +kernel, rfl⟩
theorem eX4_measure_34 : Dc cX4_measure 34 (.iconst 1) 1 35 := ⟨by decide +kernel, rfl⟩
theorem eX4_measure_35 : Dc cX4_measure 35 (.if_icmp .ne 7) 3 38 := ⟨by decide +kernel, rfl⟩
theorem eX4_measure_38 : Dc cX4_measure 38 (.iconst 1) 1 39 := ⟨by decide +kernel, rfl⟩
theorem eX4_measure_39 : Dc cX4_measure 39 (.goto 4) 3 42 := ⟨by decide +kernel, rfl⟩
theorem eX4_measure_42 : Dc cX4_measure 42 (.iconst 0) 1 43 := ⟨by decide +kernel, rfl⟩
theorem eX4_measure_43 : Dc cX4_measure 43 (.istore 4) 2 45 := ⟨by decide +kernel, rfl⟩
theorem eX4_measure_45 : Dc cX4_measure 45 (.aload_n 0) 1 46 := ⟨by decide +kernel, rfl⟩
theorem eX4_measure_46 : Dc cX4_measure 46 (.getfield 9) 3 49 := ⟨by decide +kernel, rfl⟩
theorem eX4_measure_49 : Dc cX4_measure 49 (.iload_n 2) 1 50 := ⟨by decide +kernel, rfl⟩
theorem eX4_measure_50 : Dc cX4_measure 50 (.iload 4) 2 52 := ⟨by decide +kernel, rfl⟩
theorem eX4_measure_52 : Dc cX4_measure 52 (.ifCond .eq 9) 3 55 := ⟨by decide +kernel, rfl⟩
theorem eX4_measure_55 : Dc cX4_measure 55 (.sipush 1000) 3 58 := ⟨by decide +kernel, rfl⟩
theorem eX4_measure_58 : Dc cX4_measure 58 (.goto 22) 3 61 := ⟨by decide +kernel, rfl⟩
theorem eX4_measure_61 : Dc cX4_measure 61 (.aload_n 0) 1 62 := ⟨by decide +kernel, rfl⟩
theorem eX4_measure_62 : Dc cX4_measure 62 (.getfield 15) 3 65 := ⟨by decide +kernel, rfl⟩
theorem eX4_measure_65 : Dc cX4_measure 65 (.getfield 28) 3 68 := ⟨by decide +kernel, rfl⟩
theorem eX4_measure_68 : Dc cX4_measure 68 (.iload_n 2) 1 69 := ⟨by decide +kernel, rfl⟩
theorem eX4_measure_69 : Dc cX4_measure 69 (.iaload) 1 70 := ⟨by decide +kernel, rfl⟩
theorem eX4_measure_70 : Dc cX4_measure 70 (.aload_n 0) 1 71 := ⟨by decide +kernel, rfl⟩
theorem eX4_measure_71 : Dc cX4_measure 71 (.getfield 15) 3 74 := ⟨by decide +kernel, rfl⟩
theorem eX4_measure_74 : Dc cX4_measure 74 (.iload_n 3) 1 75 := ⟨by decide +kernel, rfl⟩
theorem eX4_measure_75 : Dc cX4_measure 75 (.iload_n 1) 1 76 := ⟨by decide +kernel, rfl⟩
theorem eX4_measure_76 : Dc cX4_measure 76 (.invokevirtual 31) 3 79 := ⟨by decide +kernel, rfl⟩
theorem eX4_measure_79 : Dc cX4_measure 79 (.isub) 1 80 := ⟨by decide +kernel, rfl⟩
theorem eX4_measure_80 : Dc cX4_measure 80 (.iastore) 1 81 := ⟨by decide +kernel, rfl⟩
theorem eX4_measure_81 : Dc cX4_measure 81 (.iinc 2 1) 3 84 := ⟨by decide +kernel, rfl⟩
theorem eX4_measure_84 : Dc cX4_measure 84 (.goto (-82)) 3 87 := ⟨by decide +kernel, rfl⟩
theorem eX4_measure_87 : Dc cX4_measure 87 (.return_) 1 88 := ⟨by decide +kernel, rfl⟩
def fX4_measure_L2  (a1 : Int32) : Nat → Int32 → SS → Option (SS)
  | 0, _, _ => none
  | n + 1, a2, c => if (8 : Int32) ≤ a2 then some c else ald 8 (c.2 2) a2 (fun v2 => jn (fun (x3 : Int32) => jn (fun (x4 : Int32) => ckb 8 a2 (fX4_measure_L2 a1 n (a2 + (1 : Int32)) (sA c 8 (a2).toNatClampNeg x4))) (fun j80 => if x3 = (0 : Int32) then ald 8 (c.2 3) a2 (fun v7 => Option.bind (fX5_departs c v2 a1) (fun q8 => j80 (v7 - q8))) else j80 (1000 : Int32))) (fun j43 => jn (fun (_ : Unit) => j43 (1 : Int32)) (fun j38 => if (fX5_isPerson c a2) = (0 : Int32) then j38 () else if ((a1 >>> (v2 &&& 31)) &&& (1 : Int32)) = (1 : Int32) then j38 () else j43 (0 : Int32))))
def fX4_measure (c : SS) (p1 : Int32) : Option (SS) := fX4_measure_L2 p1 fu (0 : Int32) c
set_option maxRecDepth 20000 in
theorem ctX4_measure_L2 (l : Launch) (G : tg_G) (A : Nat → Nat)  (a1 : Int32) {z : SS}  : ∀ (n : Nat) (a2 : Int32) (c : SS), fX4_measure_L2 a1 n a2 c = some z → V l G (tg_Zm G (fun v w1 => v = none ∧ w1 = wC G A z) 0 0) tg_E0 (tg_R 2 43) "TramGod$Slack" "measure" cX4_measure 5 none 2 [(0, .ref (A 11)), (1, .int a1), (2, .int a2)] [] (wC G A c) 0 0 := by
  intro n
  induction n with
  | zero => intro a2 c h; exact absurd h (by simp [fX4_measure_L2])
  | succ n ih =>
    intro a2 c h
    unfold fX4_measure_L2 at h
    refine V_iload_n eX4_measure_2 2 rfl ?_
    refine V_bipush (v := (8 : Int32)) eX4_measure_3 rfl ?_
    refine V_icmp_ge (tgt := 87) eX4_measure_5 rfl (fun hb1 => ?_) (fun hb1 => ?_)
    · replace h := (if_pos hb1).symm.trans h
      obtain rfl := Option.some.inj h
      exact V_vret eX4_measure_87 rfl ⟨rfl, rfl⟩
    · replace h := (if_neg hb1).symm.trans h
      refine V_aload_n eX4_measure_8 0 rfl ?_
      refine V_get (v := .ref (A 3)) eX4_measure_9 inX4 11 rfl rfl 0 (Nat.le_of_ble_eq_true rfl) tw_119 rfl ?_
      refine V_get (v := .ref (A 5)) eX4_measure_12 inX5 3 rfl rfl 9 (Nat.le_of_ble_eq_true rfl) tw_65 rfl ?_
      refine V_iload_n eX4_measure_15 2 rfl ?_
      obtain ⟨v2, hi2, ev2, h⟩ := ald_some h
      refine V_ialdv eX4_measure_16 5 rfl hi2 ev2 ?_
      refine V_istore_n (lv' := [(3, .int v2), (0, .ref (A 11)), (1, .int a1), (2, .int a2)]) eX4_measure_17 (Nat.le_of_ble_eq_true rfl) rfl ?_
      refine V_aload_n eX4_measure_18 1 rfl ?_
      refine V_get (v := .ref (A 3)) eX4_measure_19 inX4 11 rfl rfl 0 (Nat.le_of_ble_eq_true rfl) tw_119 rfl ?_
      refine V_iload_n eX4_measure_22 3 rfl ?_
      refine V_callVi (rest := []) eX4_measure_23 (ctX5_isPerson l G A c a2 rfl) tc_311 tw_353 tw_3 tw_309 tw_310 3 rfl rfl hdX5_isPerson rfl ⟨Nat.le_of_ble_eq_true rfl, Nat.le_of_ble_eq_true rfl⟩ rfl (Nat.le_of_ble_eq_true rfl) ⟨Nat.zero_le _, Nat.zero_le _⟩ ?_
      refine jn_elim h (fun j => ∀ (x3 : Int32), j x3 = some z → V l G (tg_Zm G (fun v w1 => v = none ∧ w1 = wC G A z) 0 0) tg_E0 (tg_R 2 43) "TramGod$Slack" "measure" cX4_measure 5 none 43 [(0, .ref (A 11)), (1, .int a1), (2, .int a2), (3, .int v2)] [.int x3] (wC G A c) 0 0) ?_ (fun j43 hj43 h => ?_)
      · intro x3 h
        refine V_istore (lv' := [(4, .int x3), (0, .ref (A 11)), (1, .int a1), (2, .int a2), (3, .int v2)]) eX4_measure_43 (Nat.le_of_ble_eq_true rfl) rfl ?_
        refine V_aload_n eX4_measure_45 1 rfl ?_
        refine V_get (v := .ref (A 12)) eX4_measure_46 inX4 11 rfl rfl 1 (Nat.le_of_ble_eq_true rfl) tw_120 rfl ?_
        refine V_iload_n eX4_measure_49 3 rfl ?_
        refine V_iload eX4_measure_50 0 rfl ?_
        refine jn_elim h (fun j => ∀ (x4 : Int32), j x4 = some z → V l G (tg_Zm G (fun v w1 => v = none ∧ w1 = wC G A z) 0 0) tg_E0 (tg_R 2 43) "TramGod$Slack" "measure" cX4_measure 5 none 80 [(0, .ref (A 11)), (1, .int a1), (2, .int a2)] [.int x4, .int a2, .ref (A 12)] (wC G A c) 0 0) ?_ (fun j80 hj80 h => ?_)
        · intro x4 h
          obtain ⟨hi5, h⟩ := ckb_some h
          refine V_iast (w' := wC G A (sA c 8 (a2).toNatClampNeg x4)) eX4_measure_80 12 rfl hi5 rfl ?_
          refine V_iinc (v := (a2 + (1 : Int32))) (lv' := [(2, .int (a2 + (1 : Int32))), (0, .ref (A 11)), (1, .int a1)]) eX4_measure_81 2 rfl rfl (Nat.le_of_ble_eq_true rfl) rfl ?_
          refine V_goto (tgt := 2) eX4_measure_84 rfl ?_
          refine V_lv (lv' := [(0, .ref (A 11)), (1, .int a1), (2, .int (a2 + (1 : Int32)))]) [1, 2, 0] rfl ?_
          exact ih (a2 + (1 : Int32)) (sA c 8 (a2).toNatClampNeg x4) h
        refine V_if_eq (tgt := 61) eX4_measure_52 rfl (fun hb6 => ?_) (fun hb6 => ?_)
        · replace h := (if_pos hb6).symm.trans h
          refine V_aload_n eX4_measure_61 1 rfl ?_
          refine V_get (v := .ref (A 3)) eX4_measure_62 inX4 11 rfl rfl 0 (Nat.le_of_ble_eq_true rfl) tw_119 rfl ?_
          refine V_get (v := .ref (A 6)) eX4_measure_65 inX5 3 rfl rfl 10 (Nat.le_of_ble_eq_true rfl) tw_69 rfl ?_
          refine V_iload_n eX4_measure_68 3 rfl ?_
          obtain ⟨v7, hi7, ev7, h⟩ := ald_some h
          refine V_ialdv eX4_measure_69 6 rfl hi7 ev7 ?_
          refine V_aload_n eX4_measure_70 1 rfl ?_
          refine V_get (v := .ref (A 3)) eX4_measure_71 inX4 11 rfl rfl 0 (Nat.le_of_ble_eq_true rfl) tw_119 rfl ?_
          refine V_iload_n eX4_measure_74 4 rfl ?_
          refine V_iload_n eX4_measure_75 2 rfl ?_
          obtain ⟨q8, hc8, h⟩ := Option.bind_eq_some_iff.mp h
          refine V_callVi (rest := [.int v7, .int a2, .ref (A 12)]) eX4_measure_76 (ctX5_departs l G A c v2 a1 hc8) tc_357 tw_354 tw_3 tw_355 tw_356 3 rfl rfl hdX5_departs rfl ⟨Nat.le_of_ble_eq_true rfl, Nat.le_of_ble_eq_true rfl⟩ rfl (Nat.le_of_ble_eq_true rfl) ⟨Nat.zero_le _, Nat.zero_le _⟩ ?_
          refine V_isub eX4_measure_79 ?_
          refine V_lv (lv' := [(0, .ref (A 11)), (1, .int a1), (2, .int a2)]) [1, 2, 3] rfl ?_
          exact hj80 (v7 - q8) h
        · replace h := (if_neg hb6).symm.trans h
          refine V_sipush (v := (1000 : Int32)) eX4_measure_55 rfl ?_
          refine V_goto (tgt := 80) eX4_measure_58 rfl ?_
          refine V_lv (lv' := [(0, .ref (A 11)), (1, .int a1), (2, .int a2)]) [1, 2, 3] rfl ?_
          exact hj80 (1000 : Int32) h
      refine jn_elim h (fun j => j () = some z → V l G (tg_Zm G (fun v w1 => v = none ∧ w1 = wC G A z) 0 0) tg_E0 (tg_R 2 43) "TramGod$Slack" "measure" cX4_measure 5 none 38 [(0, .ref (A 11)), (1, .int a1), (2, .int a2), (3, .int v2)] [] (wC G A c) 0 0) ?_ (fun j38 hj38 h => ?_)
      · intro h
        refine V_iconst (v := (1 : Int32)) eX4_measure_38 rfl ?_
        refine V_goto (tgt := 43) eX4_measure_39 rfl ?_
        exact hj43 (1 : Int32) h
      refine V_if_eq (tgt := 38) eX4_measure_26 rfl (fun hb9 => ?_) (fun hb9 => ?_)
      · replace h := (if_pos hb9).symm.trans h
        refine V_lv (lv' := [(0, .ref (A 11)), (1, .int a1), (2, .int a2), (3, .int v2)]) [1, 2, 3, 0] rfl ?_
        exact hj38 h
      · replace h := (if_neg hb9).symm.trans h
        refine V_iload_n eX4_measure_29 2 rfl ?_
        refine V_iload_n eX4_measure_30 0 rfl ?_
        refine V_ishr eX4_measure_31 ?_
        refine V_iconst (v := (1 : Int32)) eX4_measure_32 rfl ?_
        refine V_iand eX4_measure_33 ?_
        refine V_iconst (v := (1 : Int32)) eX4_measure_34 rfl ?_
        refine V_icmp_ne (tgt := 42) eX4_measure_35 rfl (fun hb10 => ?_) (fun hb10 => ?_)
        · replace h := (if_neg hb10).symm.trans h
          refine V_iconst (v := (0 : Int32)) eX4_measure_42 rfl ?_
          refine V_lv (lv' := [(0, .ref (A 11)), (1, .int a1), (2, .int a2), (3, .int v2)]) [1, 2, 3, 0] rfl ?_
          exact hj43 (0 : Int32) h
        · replace h := (if_pos hb10).symm.trans h
          refine V_lv (lv' := [(0, .ref (A 11)), (1, .int a1), (2, .int a2), (3, .int v2)]) [1, 2, 3, 0] rfl ?_
          exact hj38 h
set_option maxRecDepth 20000 in
theorem ctX4_measure (l : Launch) (G : tg_G) (A : Nat → Nat) (c : SS) (p1 : Int32) {z : SS} (h : fX4_measure c p1 = some z) : Mt l G yX4_measure cX4_measure 5 none (tg_R 2 43) [.ref (A 11), .int p1] (wC G A c) (fun v w1 => v = none ∧ w1 = wC G A z) := by
  refine Mt_of2 (own := "TramGod$Slack") (nm := "measure") rfl rfl rfl (Nat.le_of_ble_eq_true rfl) (lv := [(0, .ref (A 11)), (1, .int p1)]) rfl ?_
  unfold fX4_measure at h
  refine V_iconst (v := (0 : Int32)) eX4_measure_0 rfl ?_
  refine V_istore_n (lv' := [(2, .int (0 : Int32)), (0, .ref (A 11)), (1, .int p1)]) eX4_measure_1 (Nat.le_of_ble_eq_true rfl) rfl ?_
  refine V_lv (lv' := [(0, .ref (A 11)), (1, .int p1), (2, .int (0 : Int32))]) [1, 2, 0] rfl ?_
  refine ctX4_measure_L2 l G A p1 fu (0 : Int32) c h
theorem hdX6_addDelays : yX6_addDelays.cls ≠ "java/lang/invoke/MethodHandle" ∧ yX6_addDelays.cls ≠ "java/lang/invoke/VarHandle" ∧ (parseMethodDescriptor yX6_addDelays.desc).map (fun d => d.parameters.length) = some 0 := by decide +kernel
theorem eX6_addDelays_0 : Dc cX6_addDelays 0 (.iconst 0) 1 1 := ⟨by decide +kernel, rfl⟩
theorem eX6_addDelays_1 : Dc cX6_addDelays 1 (.istore_n 1) 1 2 := ⟨by decide +kernel, rfl⟩
theorem eX6_addDelays_2 : Dc cX6_addDelays 2 (.iconst 0) 1 3 := ⟨by decide +kernel, rfl⟩
theorem eX6_addDelays_3 : Dc cX6_addDelays 3 (.istore_n 2) 1 4 := ⟨by decide +kernel, rfl⟩
theorem eX6_addDelays_4 : Dc cX6_addDelays 4 (.iload_n 2) 1 5 := ⟨by decide +kernel, rfl⟩
theorem eX6_addDelays_5 : Dc cX6_addDelays 5 (.aload_n 0) 1 6 := ⟨by decide +kernel, rfl⟩
theorem eX6_addDelays_6 : Dc cX6_addDelays 6 (.getfield 19) 3 9 := ⟨by decide +kernel, rfl⟩
theorem eX6_addDelays_9 : Dc cX6_addDelays 9 (.getfield 84) 3 12 := ⟨by decide +kernel, rfl⟩
theorem eX6_addDelays_12 : Dc cX6_addDelays 12 (.if_icmp .ge 25) 3 15 := ⟨by decide +kernel, rfl⟩
theorem eX6_addDelays_15 : Dc cX6_addDelays 15 (.iload_n 1) 1 16 := ⟨by decide +kernel, rfl⟩
theorem eX6_addDelays_16 : Dc cX6_addDelays 16 (.aload_n 0) 1 17 := ⟨by decide +kernel, rfl⟩
theorem eX6_addDelays_17 : Dc cX6_addDelays 17 (.getfield 61) 3 20 := ⟨by decide +kernel, rfl⟩
theorem eX6_addDelays_20 : Dc cX6_addDelays 20 (.iload_n 2) 1 21 := ⟨by decide +kernel, rfl⟩
theorem eX6_addDelays_21 : Dc cX6_addDelays 21 (.iaload) 1 22 := ⟨by decide +kernel, rfl⟩
theorem eX6_addDelays_22 : Dc cX6_addDelays 22 (.iadd) 1 23 := ⟨by decide +kernel, rfl⟩
theorem eX6_addDelays_23 : Dc cX6_addDelays 23 (.istore_n 1) 1 24 := ⟨by decide +kernel, rfl⟩
theorem eX6_addDelays_24 : Dc cX6_addDelays 24 (.aload_n 0) 1 25 := ⟨by decide +kernel, rfl⟩
theorem eX6_addDelays_25 : Dc cX6_addDelays 25 (.getfield 65) 3 28 := ⟨by decide +kernel, rfl⟩
theorem eX6_addDelays_28 : Dc cX6_addDelays 28 (.iload_n 2) 1 29 := ⟨by decide +kernel, rfl⟩
theorem eX6_addDelays_29 : Dc cX6_addDelays 29 (.iload_n 1) 1 30 := ⟨by decide +kernel, rfl⟩
theorem eX6_addDelays_30 : Dc cX6_addDelays 30 (.iastore) 1 31 := ⟨by decide +kernel, rfl⟩
theorem eX6_addDelays_31 : Dc cX6_addDelays 31 (.iinc 2 1) 3 34 := ⟨by decide +kernel, rfl⟩
theorem eX6_addDelays_34 : Dc cX6_addDelays 34 (.goto (-30)) 3 37 := ⟨by decide +kernel, rfl⟩
theorem eX6_addDelays_37 : Dc cX6_addDelays 37 (.return_) 1 38 := ⟨by decide +kernel, rfl⟩
def fX6_addDelays_L4   : Nat → Int32 → Int32 → SS → Option (SS)
  | 0, _, _, _ => none
  | n + 1, a1, a2, c => if (c.1 1) ≤ a2 then some c else ald 6 (c.2 19) a2 (fun v2 => ckb 6 a2 (fX6_addDelays_L4  n (a1 + v2) (a2 + (1 : Int32)) (sA c 20 (a2).toNatClampNeg (a1 + v2))))
def fX6_addDelays (c : SS)  : Option (SS) := fX6_addDelays_L4  fu (0 : Int32) (0 : Int32) c
set_option maxRecDepth 20000 in
theorem ctX6_addDelays_L4 (l : Launch) (G : tg_G) (A : Nat → Nat)   {z : SS}  : ∀ (n : Nat) (a1 : Int32) (a2 : Int32) (c : SS), fX6_addDelays_L4  n a1 a2 c = some z → V l G (tg_Zm G (fun v w1 => v = none ∧ w1 = wC G A z) 0 0) tg_E0 (tg_R 0 0) "TramGod" "addDelays" cX6_addDelays 3 none 4 [(0, .ref (A 0)), (1, .int a1), (2, .int a2)] [] (wC G A c) 0 0 := by
  intro n
  induction n with
  | zero => intro a1 a2 c h; exact absurd h (by simp [fX6_addDelays_L4])
  | succ n ih =>
    intro a1 a2 c h
    unfold fX6_addDelays_L4 at h
    refine V_iload_n eX6_addDelays_4 2 rfl ?_
    refine V_aload_n eX6_addDelays_5 0 rfl ?_
    refine V_get (v := .ref (A 3)) eX6_addDelays_6 inX6 0 rfl rfl 1 (Nat.le_of_ble_eq_true rfl) tw_208 rfl ?_
    refine V_get (v := .int (c.1 1)) eX6_addDelays_9 inX5 3 rfl rfl 0 (Nat.le_of_ble_eq_true rfl) tw_44 rfl ?_
    refine V_icmp_ge (tgt := 37) eX6_addDelays_12 rfl (fun hb1 => ?_) (fun hb1 => ?_)
    · replace h := (if_pos hb1).symm.trans h
      obtain rfl := Option.some.inj h
      exact V_vret eX6_addDelays_37 rfl ⟨rfl, rfl⟩
    · replace h := (if_neg hb1).symm.trans h
      refine V_iload_n eX6_addDelays_15 1 rfl ?_
      refine V_aload_n eX6_addDelays_16 0 rfl ?_
      refine V_get (v := .ref (A 26)) eX6_addDelays_17 inX6 0 rfl rfl 7 (Nat.le_of_ble_eq_true rfl) tw_214 rfl ?_
      refine V_iload_n eX6_addDelays_20 2 rfl ?_
      obtain ⟨v2, hi2, ev2, h⟩ := ald_some h
      refine V_ialdv eX6_addDelays_21 26 rfl hi2 ev2 ?_
      refine V_iadd eX6_addDelays_22 ?_
      refine V_istore_n (lv' := [(1, .int (a1 + v2)), (0, .ref (A 0)), (2, .int a2)]) eX6_addDelays_23 (Nat.le_of_ble_eq_true rfl) rfl ?_
      refine V_aload_n eX6_addDelays_24 1 rfl ?_
      refine V_get (v := .ref (A 27)) eX6_addDelays_25 inX6 0 rfl rfl 8 (Nat.le_of_ble_eq_true rfl) tw_215 rfl ?_
      refine V_iload_n eX6_addDelays_28 2 rfl ?_
      refine V_iload_n eX6_addDelays_29 0 rfl ?_
      obtain ⟨hi3, h⟩ := ckb_some h
      refine V_iast (w' := wC G A (sA c 20 (a2).toNatClampNeg (a1 + v2))) eX6_addDelays_30 27 rfl hi3 rfl ?_
      refine V_iinc (v := (a2 + (1 : Int32))) (lv' := [(2, .int (a2 + (1 : Int32))), (1, .int (a1 + v2)), (0, .ref (A 0))]) eX6_addDelays_31 2 rfl rfl (Nat.le_of_ble_eq_true rfl) rfl ?_
      refine V_goto (tgt := 4) eX6_addDelays_34 rfl ?_
      refine V_lv (lv' := [(0, .ref (A 0)), (1, .int (a1 + v2)), (2, .int (a2 + (1 : Int32)))]) [2, 1, 0] rfl ?_
      exact ih (a1 + v2) (a2 + (1 : Int32)) (sA c 20 (a2).toNatClampNeg (a1 + v2)) h
set_option maxRecDepth 20000 in
theorem ctX6_addDelays (l : Launch) (G : tg_G) (A : Nat → Nat) (c : SS)  {z : SS} (h : fX6_addDelays c  = some z) : Mt l G yX6_addDelays cX6_addDelays 3 none (tg_R 0 0) [.ref (A 0)] (wC G A c) (fun v w1 => v = none ∧ w1 = wC G A z) := by
  refine Mt_of2 (own := "TramGod") (nm := "addDelays") rfl rfl rfl (Nat.le_of_ble_eq_true rfl) (lv := [(0, .ref (A 0))]) rfl ?_
  unfold fX6_addDelays at h
  refine V_iconst (v := (0 : Int32)) eX6_addDelays_0 rfl ?_
  refine V_istore_n (lv' := [(1, .int (0 : Int32)), (0, .ref (A 0))]) eX6_addDelays_1 (Nat.le_of_ble_eq_true rfl) rfl ?_
  refine V_iconst (v := (0 : Int32)) eX6_addDelays_2 rfl ?_
  refine V_istore_n (lv' := [(2, .int (0 : Int32)), (1, .int (0 : Int32)), (0, .ref (A 0))]) eX6_addDelays_3 (Nat.le_of_ble_eq_true rfl) rfl ?_
  refine V_lv (lv' := [(0, .ref (A 0)), (1, .int (0 : Int32)), (2, .int (0 : Int32))]) [2, 1, 0] rfl ?_
  refine ctX6_addDelays_L4 l G A fu (0 : Int32) (0 : Int32) c h
theorem hdX6_readGoodHold : yX6_readGoodHold.cls ≠ "java/lang/invoke/MethodHandle" ∧ yX6_readGoodHold.cls ≠ "java/lang/invoke/VarHandle" ∧ (parseMethodDescriptor yX6_readGoodHold.desc).map (fun d => d.parameters.length) = some 0 := by decide +kernel
theorem eX6_readGoodHold_0 : Dc cX6_readGoodHold 0 (.aload_n 0) 1 1 := ⟨by decide +kernel, rfl⟩
theorem eX6_readGoodHold_1 : Dc cX6_readGoodHold 1 (.invokevirtual 136) 3 4 := ⟨by decide +kernel, rfl⟩
theorem eX6_readGoodHold_4 : Dc cX6_readGoodHold 4 (.ifCond .eq 21) 3 7 := ⟨by decide +kernel, rfl⟩
theorem eX6_readGoodHold_7 : Dc cX6_readGoodHold 7 (.aload_n 0) 1 8 := ⟨by decide +kernel, rfl⟩
theorem eX6_readGoodHold_8 : Dc cX6_readGoodHold 8 (.invokevirtual 140) 3 11 := ⟨by decide +kernel, rfl⟩
theorem eX6_readGoodHold_11 : Dc cX6_readGoodHold 11 (.bipush (-6)) 2 13 := ⟨by decide +kernel, rfl⟩
theorem eX6_readGoodHold_13 : Dc cX6_readGoodHold 13 (.if_icmp .ne 12) 3 16 := ⟨by decide +kernel, rfl⟩
theorem eX6_readGoodHold_16 : Dc cX6_readGoodHold 16 (.aload_n 0) 1 17 := ⟨by decide +kernel, rfl⟩
theorem eX6_readGoodHold_17 : Dc cX6_readGoodHold 17 (.invokevirtual 144) 3 20 := ⟨by decide +kernel, rfl⟩
theorem eX6_readGoodHold_20 : Dc cX6_readGoodHold 20 (.bipush (-6)) 2 22 := ⟨by decide +kernel, rfl⟩
theorem eX6_readGoodHold_22 : Dc cX6_readGoodHold 22 (.if_icmp .eq 5) 3 25 := ⟨by decide +kernel, rfl⟩
theorem eX6_readGoodHold_25 : Dc cX6_readGoodHold 25 (.iconst 0) 1 26 := ⟨by decide +kernel, rfl⟩
theorem eX6_readGoodHold_26 : Dc cX6_readGoodHold 26 (.ireturn) 1 27 := ⟨by decide +kernel, rfl⟩
theorem eX6_readGoodHold_27 : Dc cX6_readGoodHold 27 (.aload_n 0) 1 28 := ⟨by decide +kernel, rfl⟩
theorem eX6_readGoodHold_28 : Dc cX6_readGoodHold 28 (.getfield 32) 3 31 := ⟨by decide +kernel, rfl⟩
theorem eX6_readGoodHold_31 : Dc cX6_readGoodHold 31 (.aload_n 0) 1 32 := ⟨by decide +kernel, rfl⟩
theorem eX6_readGoodHold_32 : Dc cX6_readGoodHold 32 (.getfield 19) 3 35 := ⟨by decide +kernel, rfl⟩
theorem eX6_readGoodHold_35 : Dc cX6_readGoodHold 35 (.getfield 94) 3 38 := ⟨by decide +kernel, rfl⟩
theorem eX6_readGoodHold_38 : Dc cX6_readGoodHold 38 (.invokevirtual 182) 3 41 := ⟨by decide +kernel, rfl⟩
theorem eX6_readGoodHold_41 : Dc cX6_readGoodHold 41 (.aload_n 0) 1 42 := ⟨by decide +kernel, rfl⟩
theorem eX6_readGoodHold_42 : Dc cX6_readGoodHold 42 (.invokevirtual 289) 3 45 := ⟨by decide +kernel, rfl⟩
theorem eX6_readGoodHold_45 : Dc cX6_readGoodHold 45 (.iconst 1) 1 46 := ⟨by decide +kernel, rfl⟩
theorem eX6_readGoodHold_46 : Dc cX6_readGoodHold 46 (.ireturn) 1 47 := ⟨by decide +kernel, rfl⟩
def fX6_readGoodHold (c : SS)  : Option (Int32 × SS) := Option.bind (fX6_readHold c) (fun q1 => if q1.1 = (0 : Int32) then some ((0 : Int32), q1.2) else Option.bind (fX6_stopOverEach q1.2) (fun q3 => if q3 = (-6 : Int32) then Option.bind (fX6_stopOverBreaths q1.2) (fun q5 => if q5 = (-6 : Int32) then Option.bind (fX4_measure q1.2 (q1.2.1 2)) (fun q7 => Option.bind (fX6_addDelays q7) (fun q8 => some ((1 : Int32), q8))) else some ((0 : Int32), q1.2)) else some ((0 : Int32), q1.2)))
set_option maxRecDepth 20000 in
theorem ctX6_readGoodHold (l : Launch) (G : tg_G) (A : Nat → Nat) (c : SS)  {z : Int32 × SS} (h : fX6_readGoodHold c  = some z) : Mt l G yX6_readGoodHold cX6_readGoodHold 1 (some .boolean) (tg_R 3 67) [.ref (A 0)] (wC G A c) (fun v w1 => v = some (.int z.1) ∧ w1 = wC G A z.2) := by
  refine Mt_of2 (own := "TramGod") (nm := "readGoodHold") rfl rfl rfl (Nat.le_of_ble_eq_true rfl) (lv := [(0, .ref (A 0))]) rfl ?_
  unfold fX6_readGoodHold at h
  refine V_aload_n eX6_readGoodHold_0 0 rfl ?_
  obtain ⟨q1, hc1, h⟩ := Option.bind_eq_some_iff.mp h
  refine V_callVi (rest := []) eX6_readGoodHold_1 (ctX6_readHold l G A c hc1) tc_327 tw_324 tw_1 tw_326 ts_0 0 rfl rfl hdX6_readHold rfl ⟨Nat.le_of_ble_eq_true rfl, Nat.le_of_ble_eq_true rfl⟩ rfl (Nat.le_of_ble_eq_true rfl) ⟨Nat.zero_le _, Nat.zero_le _⟩ ?_
  refine V_if_eq (tgt := 25) eX6_readGoodHold_4 rfl (fun hb2 => ?_) (fun hb2 => ?_)
  · replace h := (if_pos hb2).symm.trans h
    refine V_iconst (v := (0 : Int32)) eX6_readGoodHold_25 rfl ?_
    obtain rfl := Option.some.inj h
    exact V_zret eX6_readGoodHold_26 rfl rfl ⟨rfl, rfl⟩
  · replace h := (if_neg hb2).symm.trans h
    refine V_aload_n eX6_readGoodHold_7 0 rfl ?_
    obtain ⟨q3, hc3, h⟩ := Option.bind_eq_some_iff.mp h
    refine V_callVi (rest := []) eX6_readGoodHold_8 (ctX6_stopOverEach l G A q1.2 hc3) tc_336 tw_333 tw_1 tw_335 ts_1 0 rfl rfl hdX6_stopOverEach rfl ⟨Nat.le_of_ble_eq_true rfl, Nat.le_of_ble_eq_true rfl⟩ rfl (Nat.le_of_ble_eq_true rfl) ⟨Nat.zero_le _, Nat.zero_le _⟩ ?_
    refine V_bipush (v := (-6 : Int32)) eX6_readGoodHold_11 rfl ?_
    refine V_icmp_ne (tgt := 25) eX6_readGoodHold_13 rfl (fun hb4 => ?_) (fun hb4 => ?_)
    · replace h := (if_neg hb4).symm.trans h
      refine V_iconst (v := (0 : Int32)) eX6_readGoodHold_25 rfl ?_
      obtain rfl := Option.some.inj h
      exact V_zret eX6_readGoodHold_26 rfl rfl ⟨rfl, rfl⟩
    · replace h := (if_pos hb4).symm.trans h
      refine V_aload_n eX6_readGoodHold_16 0 rfl ?_
      obtain ⟨q5, hc5, h⟩ := Option.bind_eq_some_iff.mp h
      refine V_callVi (rest := []) eX6_readGoodHold_17 (ctX6_stopOverBreaths l G A q1.2 hc5) tc_340 tw_337 tw_1 tw_339 ts_2 0 rfl rfl hdX6_stopOverBreaths rfl ⟨Nat.le_of_ble_eq_true rfl, Nat.le_of_ble_eq_true rfl⟩ rfl (Nat.le_of_ble_eq_true rfl) ⟨Nat.zero_le _, Nat.zero_le _⟩ ?_
      refine V_bipush (v := (-6 : Int32)) eX6_readGoodHold_20 rfl ?_
      refine V_icmp_eq (tgt := 27) eX6_readGoodHold_22 rfl (fun hb6 => ?_) (fun hb6 => ?_)
      · replace h := (if_pos hb6).symm.trans h
        refine V_aload_n eX6_readGoodHold_27 0 rfl ?_
        refine V_get (v := .ref (A 11)) eX6_readGoodHold_28 inX6 0 rfl rfl 3 (Nat.le_of_ble_eq_true rfl) tw_210 rfl ?_
        refine V_aload_n eX6_readGoodHold_31 0 rfl ?_
        refine V_get (v := .ref (A 3)) eX6_readGoodHold_32 inX6 0 rfl rfl 1 (Nat.le_of_ble_eq_true rfl) tw_208 rfl ?_
        refine V_get (v := .int (q1.2.1 2)) eX6_readGoodHold_35 inX5 3 rfl rfl 1 (Nat.le_of_ble_eq_true rfl) tw_47 rfl ?_
        obtain ⟨q7, hc7, h⟩ := Option.bind_eq_some_iff.mp h
        refine V_callVv (rest := []) eX6_readGoodHold_38 (ctX4_measure l G A q1.2 (q1.2.1 2) hc7) tc_352 tw_349 tw_4 tw_350 tw_351 11 rfl rfl hdX4_measure rfl ⟨Nat.le_of_ble_eq_true rfl, Nat.le_of_ble_eq_true rfl⟩ rfl (Nat.le_of_ble_eq_true rfl) ⟨Nat.zero_le _, Nat.zero_le _⟩ ?_
        refine V_aload_n eX6_readGoodHold_41 0 rfl ?_
        obtain ⟨q8, hc8, h⟩ := Option.bind_eq_some_iff.mp h
        refine V_callVv (rest := []) eX6_readGoodHold_42 (ctX6_addDelays l G A q7 hc8) tc_361 tw_358 tw_1 tw_360 ts_4 0 rfl rfl hdX6_addDelays rfl ⟨Nat.le_of_ble_eq_true rfl, Nat.le_of_ble_eq_true rfl⟩ rfl (Nat.le_of_ble_eq_true rfl) ⟨Nat.zero_le _, Nat.zero_le _⟩ ?_
        refine V_iconst (v := (1 : Int32)) eX6_readGoodHold_45 rfl ?_
        obtain rfl := Option.some.inj h
        exact V_zret eX6_readGoodHold_46 rfl rfl ⟨rfl, rfl⟩
      · replace h := (if_neg hb6).symm.trans h
        refine V_iconst (v := (0 : Int32)) eX6_readGoodHold_25 rfl ?_
        obtain rfl := Option.some.inj h
        exact V_zret eX6_readGoodHold_26 rfl rfl ⟨rfl, rfl⟩
theorem hdX4_ridersLate : yX4_ridersLate.cls ≠ "java/lang/invoke/MethodHandle" ∧ yX4_ridersLate.cls ≠ "java/lang/invoke/VarHandle" ∧ (parseMethodDescriptor yX4_ridersLate.desc).map (fun d => d.parameters.length) = some 2 := by decide +kernel
theorem eX4_ridersLate_0 : Dc cX4_ridersLate 0 (.iconst 0) 1 1 := ⟨by decide +kernel, rfl⟩
theorem eX4_ridersLate_1 : Dc cX4_ridersLate 1 (.istore_n 3) 1 2 := ⟨by decide +kernel, rfl⟩
theorem eX4_ridersLate_2 : Dc cX4_ridersLate 2 (.iconst 0) 1 3 := ⟨by decide +kernel, rfl⟩
theorem eX4_ridersLate_3 : Dc cX4_ridersLate 3 (.istore 4) 2 5 := ⟨by decide +kernel, rfl⟩
theorem eX4_ridersLate_5 : Dc cX4_ridersLate 5 (.iload 4) 2 7 := ⟨by decide +kernel, rfl⟩
theorem eX4_ridersLate_7 : Dc cX4_ridersLate 7 (.bipush 8) 2 9 := ⟨by decide +kernel, rfl⟩
theorem eX4_ridersLate_9 : Dc cX4_ridersLate 9 (.if_icmp .ge 40) 3 12 := ⟨by decide +kernel, rfl⟩
theorem eX4_ridersLate_12 : Dc cX4_ridersLate 12 (.aload_n 0) 1 13 := ⟨by decide +kernel, rfl⟩
theorem eX4_ridersLate_13 : Dc cX4_ridersLate 13 (.getfield 9) 3 16 := ⟨by decide +kernel, rfl⟩
theorem eX4_ridersLate_16 : Dc cX4_ridersLate 16 (.iload 4) 2 18 := ⟨by decide +kernel, rfl⟩
theorem eX4_ridersLate_18 : Dc cX4_ridersLate 18 (.iaload) 1 19 := ⟨by decide +kernel, rfl⟩
theorem eX4_ridersLate_19 : Dc cX4_ridersLate 19 (.iload_n 2) 1 20 := ⟨by decide +kernel, rfl⟩
theorem eX4_ridersLate_20 : Dc cX4_ridersLate 20 (.iadd) 1 21 := ⟨by decide +kernel, rfl⟩
theorem eX4_ridersLate_21 : Dc cX4_ridersLate 21 (.aload_n 1) 1 22 := ⟨by decide +kernel, rfl⟩
theorem eX4_ridersLate_22 : Dc cX4_ridersLate 22 (.aload_n 0) 1 23 := ⟨by decide +kernel, rfl⟩
theorem eX4_ridersLate_23 : Dc cX4_ridersLate 23 (.getfield 15) 3 26 := ⟨by decide +kernel, rfl⟩
theorem eX4_ridersLate_26 : Dc cX4_ridersLate 26 (.getfield 19) 3 29 := ⟨by decide +kernel, rfl⟩
theorem eX4_ridersLate_29 : Dc cX4_ridersLate 29 (.iload 4) 2 31 := ⟨by decide +kernel, rfl⟩
theorem eX4_ridersLate_31 : Dc cX4_ridersLate 31 (.iaload) 1 32 := ⟨by decide +kernel, rfl⟩
theorem eX4_ridersLate_32 : Dc cX4_ridersLate 32 (.iaload) 1 33 := ⟨by decide +kernel, rfl⟩
theorem eX4_ridersLate_33 : Dc cX4_ridersLate 33 (.if_icmp .gt 10) 3 36 := ⟨by decide +kernel, rfl⟩
theorem eX4_ridersLate_36 : Dc cX4_ridersLate 36 (.iload_n 3) 1 37 := ⟨by decide +kernel, rfl⟩
theorem eX4_ridersLate_37 : Dc cX4_ridersLate 37 (.iconst 1) 1 38 := ⟨by decide +kernel, rfl⟩
theorem eX4_ridersLate_38 : Dc cX4_ridersLate 38 (.iload 4) 2 40 := ⟨by decide +kernel, rfl⟩
theorem eX4_ridersLate_40 : Dc cX4_ridersLate 40 (.ishl) 1 41 := ⟨by decide +kernel, rfl⟩
theorem eX4_ridersLate_41 : Dc cX4_ridersLate 41 (.ior) 1 42 := ⟨by decide +kernel, rfl⟩
theorem eX4_ridersLate_42 : Dc cX4_ridersLate 42 (.istore_n 3) 1 43 := ⟨by decide +kernel, rfl⟩
theorem eX4_ridersLate_43 : Dc cX4_ridersLate 43 (.iinc 4 1) 3 46 := ⟨by decide +kernel, rfl⟩
theorem eX4_ridersLate_46 : Dc cX4_ridersLate 46 (.goto (-41)) 3 49 := ⟨by decide +kernel, rfl⟩
theorem eX4_ridersLate_49 : Dc cX4_ridersLate 49 (.iload_n 3) 1 50 := ⟨by decide +kernel, rfl⟩
theorem eX4_ridersLate_50 : Dc cX4_ridersLate 50 (.ireturn) 1 51 := ⟨by decide +kernel, rfl⟩
def fX4_ridersLate_27_L5  (c : SS) (a2 : Int32) : Nat → Int32 → Int32 → Option (Int32)
  | 0, _, _ => none
  | n + 1, a3, a4 => if (8 : Int32) ≤ a4 then some a3 else ald 8 (c.2 8) a4 (fun v2 => ald 8 (c.2 2) a4 (fun v3 => ald 6 (c.2 20) v3 (fun v4 => jn (fun (x5 : Int32) => fX4_ridersLate_27_L5 c a2 n x5 (a4 + (1 : Int32))) (fun j43 => if v4 < (v2 + a2) then j43 a3 else j43 (a3 ||| ((1 : Int32) <<< (a4 &&& 31)))))))
def fX4_ridersLate_27 (c : SS) (p2 : Int32) : Option (Int32) := fX4_ridersLate_27_L5 c p2 fu (0 : Int32) (0 : Int32)
set_option maxRecDepth 20000 in
theorem ctX4_ridersLate_27_L5 (l : Launch) (G : tg_G) (A : Nat → Nat)  (c : SS) (a2 : Int32) {z : Int32}  : ∀ (n : Nat) (a3 : Int32) (a4 : Int32), fX4_ridersLate_27_L5 c a2 n a3 a4 = some z → V l G (tg_Zm G (fun v w1 => v = some (.int z) ∧ w1 = wC G A c) 0 0) tg_E0 (tg_R 0 0) "TramGod$Slack" "ridersLate" cX4_ridersLate 5 (some .int) 5 [(0, .ref (A 11)), (1, .ref (A 27)), (2, .int a2), (3, .int a3), (4, .int a4)] [] (wC G A c) 0 0 := by
  intro n
  induction n with
  | zero => intro a3 a4 h; exact absurd h (by simp [fX4_ridersLate_27_L5])
  | succ n ih =>
    intro a3 a4 h
    unfold fX4_ridersLate_27_L5 at h
    refine V_iload eX4_ridersLate_5 4 rfl ?_
    refine V_bipush (v := (8 : Int32)) eX4_ridersLate_7 rfl ?_
    refine V_icmp_ge (tgt := 49) eX4_ridersLate_9 rfl (fun hb1 => ?_) (fun hb1 => ?_)
    · replace h := (if_pos hb1).symm.trans h
      refine V_iload_n eX4_ridersLate_49 3 rfl ?_
      obtain rfl := Option.some.inj h
      exact V_ret eX4_ridersLate_50 rfl ⟨rfl, rfl⟩
    · replace h := (if_neg hb1).symm.trans h
      refine V_aload_n eX4_ridersLate_12 0 rfl ?_
      refine V_get (v := .ref (A 12)) eX4_ridersLate_13 inX4 11 rfl rfl 1 (Nat.le_of_ble_eq_true rfl) tw_120 rfl ?_
      refine V_iload eX4_ridersLate_16 4 rfl ?_
      obtain ⟨v2, hi2, ev2, h⟩ := ald_some h
      refine V_ialdv eX4_ridersLate_18 12 rfl hi2 ev2 ?_
      refine V_iload_n eX4_ridersLate_19 2 rfl ?_
      refine V_iadd eX4_ridersLate_20 ?_
      refine V_aload_n eX4_ridersLate_21 1 rfl ?_
      refine V_aload_n eX4_ridersLate_22 0 rfl ?_
      refine V_get (v := .ref (A 3)) eX4_ridersLate_23 inX4 11 rfl rfl 0 (Nat.le_of_ble_eq_true rfl) tw_119 rfl ?_
      refine V_get (v := .ref (A 5)) eX4_ridersLate_26 inX5 3 rfl rfl 9 (Nat.le_of_ble_eq_true rfl) tw_65 rfl ?_
      refine V_iload eX4_ridersLate_29 4 rfl ?_
      obtain ⟨v3, hi3, ev3, h⟩ := ald_some h
      refine V_ialdv eX4_ridersLate_31 5 rfl hi3 ev3 ?_
      obtain ⟨v4, hi4, ev4, h⟩ := ald_some h
      refine V_ialdv eX4_ridersLate_32 27 rfl hi4 ev4 ?_
      refine jn_elim h (fun j => ∀ (x5 : Int32), j x5 = some z → V l G (tg_Zm G (fun v w1 => v = some (.int z) ∧ w1 = wC G A c) 0 0) tg_E0 (tg_R 0 0) "TramGod$Slack" "ridersLate" cX4_ridersLate 5 (some .int) 43 [(0, .ref (A 11)), (1, .ref (A 27)), (2, .int a2), (3, .int x5), (4, .int a4)] [] (wC G A c) 0 0) ?_ (fun j43 hj43 h => ?_)
      · intro x5 h
        refine V_iinc (v := (a4 + (1 : Int32))) (lv' := [(4, .int (a4 + (1 : Int32))), (0, .ref (A 11)), (1, .ref (A 27)), (2, .int a2), (3, .int x5)]) eX4_ridersLate_43 4 rfl rfl (Nat.le_of_ble_eq_true rfl) rfl ?_
        refine V_goto (tgt := 5) eX4_ridersLate_46 rfl ?_
        refine V_lv (lv' := [(0, .ref (A 11)), (1, .ref (A 27)), (2, .int a2), (3, .int x5), (4, .int (a4 + (1 : Int32)))]) [1, 2, 3, 4, 0] rfl ?_
        exact ih x5 (a4 + (1 : Int32)) h
      refine V_icmp_gt (tgt := 43) eX4_ridersLate_33 rfl (fun hb6 => ?_) (fun hb6 => ?_)
      · replace h := (if_pos hb6).symm.trans h
        exact hj43 a3 h
      · replace h := (if_neg hb6).symm.trans h
        refine V_iload_n eX4_ridersLate_36 3 rfl ?_
        refine V_iconst (v := (1 : Int32)) eX4_ridersLate_37 rfl ?_
        refine V_iload eX4_ridersLate_38 4 rfl ?_
        refine V_ishl eX4_ridersLate_40 ?_
        refine V_ior eX4_ridersLate_41 ?_
        refine V_istore_n (lv' := [(3, .int (a3 ||| ((1 : Int32) <<< (a4 &&& 31)))), (0, .ref (A 11)), (1, .ref (A 27)), (2, .int a2), (4, .int a4)]) eX4_ridersLate_42 (Nat.le_of_ble_eq_true rfl) rfl ?_
        refine V_lv (lv' := [(0, .ref (A 11)), (1, .ref (A 27)), (2, .int a2), (3, .int (a3 ||| ((1 : Int32) <<< (a4 &&& 31)))), (4, .int a4)]) [1, 2, 3, 0, 4] rfl ?_
        exact hj43 (a3 ||| ((1 : Int32) <<< (a4 &&& 31))) h
set_option maxRecDepth 20000 in
theorem ctX4_ridersLate_27 (l : Launch) (G : tg_G) (A : Nat → Nat) (c : SS) (p2 : Int32) {z : Int32} (h : fX4_ridersLate_27 c p2 = some z) : Mt l G yX4_ridersLate cX4_ridersLate 5 (some .int) (tg_R 0 0) [.ref (A 11), .ref (A 27), .int p2] (wC G A c) (fun v w1 => v = some (.int z) ∧ w1 = wC G A c) := by
  refine Mt_of2 (own := "TramGod$Slack") (nm := "ridersLate") rfl rfl rfl (Nat.le_of_ble_eq_true rfl) (lv := [(0, .ref (A 11)), (1, .ref (A 27)), (2, .int p2)]) rfl ?_
  unfold fX4_ridersLate_27 at h
  refine V_iconst (v := (0 : Int32)) eX4_ridersLate_0 rfl ?_
  refine V_istore_n (lv' := [(3, .int (0 : Int32)), (0, .ref (A 11)), (1, .ref (A 27)), (2, .int p2)]) eX4_ridersLate_1 (Nat.le_of_ble_eq_true rfl) rfl ?_
  refine V_iconst (v := (0 : Int32)) eX4_ridersLate_2 rfl ?_
  refine V_istore (lv' := [(4, .int (0 : Int32)), (3, .int (0 : Int32)), (0, .ref (A 11)), (1, .ref (A 27)), (2, .int p2)]) eX4_ridersLate_3 (Nat.le_of_ble_eq_true rfl) rfl ?_
  refine V_lv (lv' := [(0, .ref (A 11)), (1, .ref (A 27)), (2, .int p2), (3, .int (0 : Int32)), (4, .int (0 : Int32))]) [2, 3, 4, 1, 0] rfl ?_
  refine ctX4_ridersLate_27_L5 l G A c p2 fu (0 : Int32) (0 : Int32) h
theorem hdX4_ridersBy : yX4_ridersBy.cls ≠ "java/lang/invoke/MethodHandle" ∧ yX4_ridersBy.cls ≠ "java/lang/invoke/VarHandle" ∧ (parseMethodDescriptor yX4_ridersBy.desc).map (fun d => d.parameters.length) = some 1 := by decide +kernel
theorem eX4_ridersBy_0 : Dc cX4_ridersBy 0 (.aload_n 0) 1 1 := ⟨by decide +kernel, rfl⟩
theorem eX4_ridersBy_1 : Dc cX4_ridersBy 1 (.aload_n 1) 1 2 := ⟨by decide +kernel, rfl⟩
theorem eX4_ridersBy_2 : Dc cX4_ridersBy 2 (.iconst 0) 1 3 := ⟨by decide +kernel, rfl⟩
theorem eX4_ridersBy_3 : Dc cX4_ridersBy 3 (.invokevirtual 35) 3 6 := ⟨by decide +kernel, rfl⟩
theorem eX4_ridersBy_6 : Dc cX4_ridersBy 6 (.ireturn) 1 7 := ⟨by decide +kernel, rfl⟩
def fX4_ridersBy_27 (c : SS)  : Option (Int32) := Option.bind (fX4_ridersLate_27 c (0 : Int32)) (fun q1 => some q1)
set_option maxRecDepth 20000 in
theorem ctX4_ridersBy_27 (l : Launch) (G : tg_G) (A : Nat → Nat) (c : SS)  {z : Int32} (h : fX4_ridersBy_27 c  = some z) : Mt l G yX4_ridersBy cX4_ridersBy 2 (some .int) (tg_R 1 24) [.ref (A 11), .ref (A 27)] (wC G A c) (fun v w1 => v = some (.int z) ∧ w1 = wC G A c) := by
  refine Mt_of2 (own := "TramGod$Slack") (nm := "ridersBy") rfl rfl rfl (Nat.le_of_ble_eq_true rfl) (lv := [(0, .ref (A 11)), (1, .ref (A 27))]) rfl ?_
  unfold fX4_ridersBy_27 at h
  refine V_aload_n eX4_ridersBy_0 0 rfl ?_
  refine V_aload_n eX4_ridersBy_1 1 rfl ?_
  refine V_iconst (v := (0 : Int32)) eX4_ridersBy_2 rfl ?_
  obtain ⟨q1, hc1, h⟩ := Option.bind_eq_some_iff.mp h
  refine V_callVi (rest := []) eX4_ridersBy_3 (ctX4_ridersLate_27 l G A c (0 : Int32) hc1) tc_369 tw_366 tw_4 tw_367 tw_368 11 rfl rfl hdX4_ridersLate rfl ⟨Nat.le_of_ble_eq_true rfl, Nat.le_of_ble_eq_true rfl⟩ rfl (Nat.le_of_ble_eq_true rfl) ⟨Nat.zero_le _, Nat.zero_le _⟩ ?_
  obtain rfl := Option.some.inj h
  exact V_ret eX4_ridersBy_6 rfl ⟨rfl, rfl⟩
