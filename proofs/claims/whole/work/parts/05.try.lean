theorem hdX1_digit : yX1_digit.cls ≠ "java/lang/invoke/MethodHandle" ∧ yX1_digit.cls ≠ "java/lang/invoke/VarHandle" ∧ (parseMethodDescriptor yX1_digit.desc).map (fun d => d.parameters.length) = some 1 := by decide +kernel
theorem eX1_digit_0 : Dc cX1_digit 0 (.iload_n 1) 1 1 := ⟨by decide +kernel, rfl⟩
theorem eX1_digit_1 : Dc cX1_digit 1 (.ifCond .lt 23) 3 4 := ⟨by decide +kernel, rfl⟩
theorem eX1_digit_4 : Dc cX1_digit 4 (.iload_n 1) 1 5 := ⟨by decide +kernel, rfl⟩
theorem eX1_digit_5 : Dc cX1_digit 5 (.aload_n 0) 1 6 := ⟨by decide +kernel, rfl⟩
theorem eX1_digit_6 : Dc cX1_digit 6 (.getfield 15) 3 9 := ⟨by decide +kernel, rfl⟩
theorem eX1_digit_9 : Dc cX1_digit 9 (.if_icmp .ge 15) 3 12 := ⟨by decide +kernel, rfl⟩
theorem eX1_digit_12 : Dc cX1_digit 12 (.aload_n 0) 1 13 := ⟨by decide +kernel, rfl⟩
theorem eX1_digit_13 : Dc cX1_digit 13 (.getfield 9) 3 16 := ⟨by decide +kernel, rfl⟩
theorem eX1_digit_16 : Dc cX1_digit 16 (.iload_n 1) 1 17 := ⟨by decide +kernel, rfl⟩
theorem eX1_digit_17 : Dc cX1_digit 17 (.iaload) 1 18 := ⟨by decide +kernel, rfl⟩
theorem eX1_digit_18 : Dc cX1_digit 18 (.bipush 48) 2 20 := ⟨by decide +kernel, rfl⟩
theorem eX1_digit_20 : Dc cX1_digit 20 (.isub) 1 21 := ⟨by decide +kernel, rfl⟩
theorem eX1_digit_21 : Dc cX1_digit 21 (.goto 4) 3 24 := ⟨by decide +kernel, rfl⟩
theorem eX1_digit_24 : Dc cX1_digit 24 (.iconst 0) 1 25 := ⟨by decide +kernel, rfl⟩
theorem eX1_digit_25 : Dc cX1_digit 25 (.ireturn) 1 26 := ⟨by decide +kernel, rfl⟩
def fX1_digit (c : SS) (p1 : Int32) : Option (Int32) := if p1 < (0 : Int32) then some (0 : Int32) else if (c.1 0) ≤ p1 then some (0 : Int32) else ald 20 (c.2 0) p1 (fun v3 => some (v3 - (48 : Int32)))
set_option maxRecDepth 20000 in
theorem ctX1_digit (l : Launch) (G : tg_G) (A : Nat → Nat) (c : SS) (p1 : Int32) {z : Int32} (h : fX1_digit c p1 = some z) : Mt l G yX1_digit cX1_digit 2 (some .int) (tg_R 0 0) [.ref (A 1), .int p1] (wC G A c) (fun v w1 => v = some (.int z) ∧ w1 = wC G A c) := by
  refine Mt_of2 (own := "TramGod$Pad") (nm := "digit") rfl rfl rfl (Nat.le_of_ble_eq_true rfl) (lv := [(0, .ref (A 1)), (1, .int p1)]) rfl ?_
  unfold fX1_digit at h
  refine V_iload_n eX1_digit_0 1 rfl ?_
  refine V_if_lt (tgt := 24) eX1_digit_1 rfl (fun hb1 => ?_) (fun hb1 => ?_)
  · replace h := (if_pos hb1).symm.trans h
    refine V_iconst (v := (0 : Int32)) eX1_digit_24 rfl ?_
    obtain rfl := Option.some.inj h
    exact V_ret eX1_digit_25 rfl ⟨rfl, rfl⟩
  · replace h := (if_neg hb1).symm.trans h
    refine V_iload_n eX1_digit_4 1 rfl ?_
    refine V_aload_n eX1_digit_5 0 rfl ?_
    refine V_get (v := .int (c.1 0)) eX1_digit_6 inX1 1 rfl rfl 1 (Nat.le_of_ble_eq_true rfl) tw_27 rfl ?_
    refine V_icmp_ge (tgt := 24) eX1_digit_9 rfl (fun hb2 => ?_) (fun hb2 => ?_)
    · replace h := (if_pos hb2).symm.trans h
      refine V_iconst (v := (0 : Int32)) eX1_digit_24 rfl ?_
      obtain rfl := Option.some.inj h
      exact V_ret eX1_digit_25 rfl ⟨rfl, rfl⟩
    · replace h := (if_neg hb2).symm.trans h
      refine V_aload_n eX1_digit_12 0 rfl ?_
      refine V_get (v := .ref (A 2)) eX1_digit_13 inX1 1 rfl rfl 0 (Nat.le_of_ble_eq_true rfl) tw_26 rfl ?_
      refine V_iload_n eX1_digit_16 1 rfl ?_
      obtain ⟨v3, hi3, ev3, h⟩ := ald_some h
      refine V_ialdv eX1_digit_17 2 rfl hi3 ev3 ?_
      refine V_bipush (v := (48 : Int32)) eX1_digit_18 rfl ?_
      refine V_isub eX1_digit_20 ?_
      refine V_goto (tgt := 25) eX1_digit_21 rfl ?_
      obtain rfl := Option.some.inj h
      exact V_ret eX1_digit_25 rfl ⟨rfl, rfl⟩
theorem hdX6_within : yX6_within.cls ≠ "java/lang/invoke/MethodHandle" ∧ yX6_within.cls ≠ "java/lang/invoke/VarHandle" ∧ (parseMethodDescriptor yX6_within.desc).map (fun d => d.parameters.length) = some 3 := by decide +kernel
theorem eX6_within_0 : Dc cX6_within 0 (.iload_n 0) 1 1 := ⟨by decide +kernel, rfl⟩
theorem eX6_within_1 : Dc cX6_within 1 (.iload_n 1) 1 2 := ⟨by decide +kernel, rfl⟩
theorem eX6_within_2 : Dc cX6_within 2 (.if_icmp .lt 12) 3 5 := ⟨by decide +kernel, rfl⟩
theorem eX6_within_5 : Dc cX6_within 5 (.iload_n 0) 1 6 := ⟨by decide +kernel, rfl⟩
theorem eX6_within_6 : Dc cX6_within 6 (.iload_n 2) 1 7 := ⟨by decide +kernel, rfl⟩
theorem eX6_within_7 : Dc cX6_within 7 (.if_icmp .gt 7) 3 10 := ⟨by decide +kernel, rfl⟩
theorem eX6_within_10 : Dc cX6_within 10 (.iconst 1) 1 11 := ⟨by decide +kernel, rfl⟩
theorem eX6_within_11 : Dc cX6_within 11 (.goto 4) 3 14 := ⟨by decide +kernel, rfl⟩
theorem eX6_within_14 : Dc cX6_within 14 (.iconst 0) 1 15 := ⟨by decide +kernel, rfl⟩
theorem eX6_within_15 : Dc cX6_within 15 (.ireturn) 1 16 := ⟨by decide +kernel, rfl⟩
def fX6_within (p0 : Int32) (p1 : Int32) (p2 : Int32) : Int32 := if p0 < p1 then (0 : Int32) else if p2 < p0 then (0 : Int32) else (1 : Int32)
set_option maxRecDepth 20000 in
theorem ctX6_within (l : Launch) (G : tg_G) (w : va_W) (p0 : Int32) (p1 : Int32) (p2 : Int32) {z : Int32} (h : fX6_within p0 p1 p2 = z) : Mt l G yX6_within cX6_within 3 (some .boolean) (tg_R 0 0) [.int p0, .int p1, .int p2] (w) (fun v w1 => v = some (.int z) ∧ w1 = w) := by
  refine Mt_of2 (own := "TramGod") (nm := "within") rfl rfl rfl (Nat.le_of_ble_eq_true rfl) (lv := [(0, .int p0), (1, .int p1), (2, .int p2)]) rfl ?_
  unfold fX6_within at h
  refine V_iload_n eX6_within_0 0 rfl ?_
  refine V_iload_n eX6_within_1 1 rfl ?_
  refine V_icmp_lt (tgt := 14) eX6_within_2 rfl (fun hb1 => ?_) (fun hb1 => ?_)
  · replace h := (if_pos hb1).symm.trans h
    refine V_iconst (v := (0 : Int32)) eX6_within_14 rfl ?_
    subst h
    exact V_zret eX6_within_15 rfl rfl ⟨rfl, rfl⟩
  · replace h := (if_neg hb1).symm.trans h
    refine V_iload_n eX6_within_5 0 rfl ?_
    refine V_iload_n eX6_within_6 2 rfl ?_
    refine V_icmp_gt (tgt := 14) eX6_within_7 rfl (fun hb2 => ?_) (fun hb2 => ?_)
    · replace h := (if_pos hb2).symm.trans h
      refine V_iconst (v := (0 : Int32)) eX6_within_14 rfl ?_
      subst h
      exact V_zret eX6_within_15 rfl rfl ⟨rfl, rfl⟩
    · replace h := (if_neg hb2).symm.trans h
      refine V_iconst (v := (1 : Int32)) eX6_within_10 rfl ?_
      refine V_goto (tgt := 15) eX6_within_11 rfl ?_
      subst h
      exact V_zret eX6_within_15 rfl rfl ⟨rfl, rfl⟩
theorem bzX6_within (p0 : Int32) (p1 : Int32) (p2 : Int32) : narrow .boolean (.int (fX6_within p0 p1 p2)) = .int (fX6_within p0 p1 p2) := by
  unfold fX6_within
  repeat' split
  all_goals first | rfl
theorem hdX1_faultOf : yX1_faultOf.cls ≠ "java/lang/invoke/MethodHandle" ∧ yX1_faultOf.cls ≠ "java/lang/invoke/VarHandle" ∧ (parseMethodDescriptor yX1_faultOf.desc).map (fun d => d.parameters.length) = some 2 := by decide +kernel
theorem eX1_faultOf_0 : Dc cX1_faultOf 0 (.iconst 0) 1 1 := ⟨by decide +kernel, rfl⟩
theorem eX1_faultOf_1 : Dc cX1_faultOf 1 (.istore_n 3) 1 2 := ⟨by decide +kernel, rfl⟩
theorem eX1_faultOf_2 : Dc cX1_faultOf 2 (.iload_n 3) 1 3 := ⟨by decide +kernel, rfl⟩
theorem eX1_faultOf_3 : Dc cX1_faultOf 3 (.aload_n 0) 1 4 := ⟨by decide +kernel, rfl⟩
theorem eX1_faultOf_4 : Dc cX1_faultOf 4 (.getfield 15) 3 7 := ⟨by decide +kernel, rfl⟩
theorem eX1_faultOf_7 : Dc cX1_faultOf 7 (.if_icmp .ge 30) 3 10 := ⟨by decide +kernel, rfl⟩
theorem eX1_faultOf_10 : Dc cX1_faultOf 10 (.iload_n 3) 1 11 := ⟨by decide +kernel, rfl⟩
theorem eX1_faultOf_11 : Dc cX1_faultOf 11 (.iload_n 2) 1 12 := ⟨by decide +kernel, rfl⟩
theorem eX1_faultOf_12 : Dc cX1_faultOf 12 (.if_icmp .ge 17) 3 15 := ⟨by decide +kernel, rfl⟩
theorem eX1_faultOf_15 : Dc cX1_faultOf 15 (.aload_n 0) 1 16 := ⟨by decide +kernel, rfl⟩
theorem eX1_faultOf_16 : Dc cX1_faultOf 16 (.iload_n 3) 1 17 := ⟨by decide +kernel, rfl⟩
theorem eX1_faultOf_17 : Dc cX1_faultOf 17 (.invokevirtual 19) 3 20 := ⟨by decide +kernel, rfl⟩
theorem eX1_faultOf_20 : Dc cX1_faultOf 20 (.iconst 0) 1 21 := ⟨by decide +kernel, rfl⟩
theorem eX1_faultOf_21 : Dc cX1_faultOf 21 (.bipush 9) 2 23 := ⟨by decide +kernel, rfl⟩
theorem eX1_faultOf_23 : Dc cX1_faultOf 23 (.invokestatic 23) 3 26 := ⟨by decide +kernel, rfl⟩
theorem eX1_faultOf_26 : Dc cX1_faultOf 26 (.ifCond .ne 5) 3 29 := ⟨by decide +kernel, rfl⟩
theorem eX1_faultOf_29 : Dc cX1_faultOf 29 (.iload_n 3) 1 30 := ⟨by decide +kernel, rfl⟩
theorem eX1_faultOf_30 : Dc cX1_faultOf 30 (.ireturn) 1 31 := ⟨by decide +kernel, rfl⟩
theorem eX1_faultOf_31 : Dc cX1_faultOf 31 (.iinc 3 1) 3 34 := ⟨by decide +kernel, rfl⟩
theorem eX1_faultOf_34 : Dc cX1_faultOf 34 (.goto (-32)) 3 37 := ⟨by decide +kernel, rfl⟩
theorem eX1_faultOf_37 : Dc cX1_faultOf 37 (.aload_n 0) 1 38 := ⟨by decide +kernel, rfl⟩
theorem eX1_faultOf_38 : Dc cX1_faultOf 38 (.getfield 15) 3 41 := ⟨by decide +kernel, rfl⟩
theorem eX1_faultOf_41 : Dc cX1_faultOf 41 (.iload_n 1) 1 42 := ⟨by decide +kernel, rfl⟩
theorem eX1_faultOf_42 : Dc cX1_faultOf 42 (.if_icmp .ge 10) 3 45 := ⟨by decide +kernel, rfl⟩
theorem eX1_faultOf_45 : Dc cX1_faultOf 45 (.aload_n 0) 1 46 := ⟨by decide +kernel, rfl⟩
theorem eX1_faultOf_46 : Dc cX1_faultOf 46 (.getfield 15) 3 49 := ⟨by decide +kernel, rfl⟩
theorem eX1_faultOf_49 : Dc cX1_faultOf 49 (.goto 5) 3 52 := ⟨by decide +kernel, rfl⟩
theorem eX1_faultOf_52 : Dc cX1_faultOf 52 (.bipush (-6)) 2 54 := ⟨by decide +kernel, rfl⟩
theorem eX1_faultOf_54 : Dc cX1_faultOf 54 (.ireturn) 1 55 := ⟨by decide +kernel, rfl⟩
def fX1_faultOf_L2 (k : Unit → Option (Int32)) (c : SS) (a1 : Int32) (a2 : Int32) : Nat → Int32 → Option (Int32)
  | 0, _ => none
  | n + 1, a3 => if (c.1 0) ≤ a3 then k () else if a2 ≤ a3 then some a3 else Option.bind (fX1_digit c a3) (fun q4 => if (fX6_within q4 (0 : Int32) (9 : Int32)) = (0 : Int32) then some a3 else fX1_faultOf_L2 k c a1 a2 n (a3 + (1 : Int32)))
def fX1_faultOf (c : SS) (p1 : Int32) (p2 : Int32) : Option (Int32) := fX1_faultOf_L2 (fun (_ : Unit) => if p1 ≤ (c.1 0) then some (-6 : Int32) else some (c.1 0)) c p1 p2 fu (0 : Int32)
set_option maxRecDepth 20000 in
theorem ctX1_faultOf_L2 (l : Launch) (G : tg_G) (A : Nat → Nat) (k : Unit → Option (Int32)) (c : SS) (a1 : Int32) (a2 : Int32) {z : Int32} (hk : k () = some z → V l G (tg_Zm G (fun v w1 => v = some (.int z) ∧ w1 = wC G A c) 0 0) tg_E0 (tg_R 1 22) "TramGod$Pad" "faultOf" cX1_faultOf 4 (some .int) 37 [(0, .ref (A 1)), (1, .int a1)] [] (wC G A c) 0 0) : ∀ (n : Nat) (a3 : Int32), fX1_faultOf_L2 k c a1 a2 n a3 = some z → V l G (tg_Zm G (fun v w1 => v = some (.int z) ∧ w1 = wC G A c) 0 0) tg_E0 (tg_R 1 22) "TramGod$Pad" "faultOf" cX1_faultOf 4 (some .int) 2 [(0, .ref (A 1)), (1, .int a1), (2, .int a2), (3, .int a3)] [] (wC G A c) 0 0 := by
  intro n
  induction n with
  | zero => intro a3 h; exact absurd h (by simp [fX1_faultOf_L2])
  | succ n ih =>
    intro a3 h
    unfold fX1_faultOf_L2 at h
    refine V_iload_n eX1_faultOf_2 3 rfl ?_
    refine V_aload_n eX1_faultOf_3 0 rfl ?_
    refine V_get (v := .int (c.1 0)) eX1_faultOf_4 inX1 1 rfl rfl 1 (Nat.le_of_ble_eq_true rfl) tw_27 rfl ?_
    refine V_icmp_ge (tgt := 37) eX1_faultOf_7 rfl (fun hb1 => ?_) (fun hb1 => ?_)
    · replace h := (if_pos hb1).symm.trans h
      refine V_lv (lv' := [(0, .ref (A 1)), (1, .int a1)]) [0, 1] rfl ?_
      exact hk h
    · replace h := (if_neg hb1).symm.trans h
      refine V_iload_n eX1_faultOf_10 3 rfl ?_
      refine V_iload_n eX1_faultOf_11 2 rfl ?_
      refine V_icmp_ge (tgt := 29) eX1_faultOf_12 rfl (fun hb2 => ?_) (fun hb2 => ?_)
      · replace h := (if_pos hb2).symm.trans h
        refine V_iload_n eX1_faultOf_29 3 rfl ?_
        obtain rfl := Option.some.inj h
        exact V_ret eX1_faultOf_30 rfl ⟨rfl, rfl⟩
      · replace h := (if_neg hb2).symm.trans h
        refine V_aload_n eX1_faultOf_15 0 rfl ?_
        refine V_iload_n eX1_faultOf_16 3 rfl ?_
        obtain ⟨q4, hc4, h⟩ := Option.bind_eq_some_iff.mp h
        refine V_callVi (rest := []) eX1_faultOf_17 (ctX1_digit l G A c a3 hc4) tc_261 tw_258 tw_2 tw_259 tw_260 1 rfl rfl hdX1_digit rfl ⟨Nat.le_of_ble_eq_true rfl, Nat.le_of_ble_eq_true rfl⟩ rfl (Nat.le_of_ble_eq_true rfl) ⟨Nat.zero_le _, Nat.zero_le _⟩ ?_
        refine V_iconst (v := (0 : Int32)) eX1_faultOf_20 rfl ?_
        refine V_bipush (v := (9 : Int32)) eX1_faultOf_21 rfl ?_
        refine V_callSNi (rest := []) eX1_faultOf_23 (ctX6_within l G _ q4 (0 : Int32) (9 : Int32) rfl) tc_241 (List.mem_of_getElem? (i := 2) rfl) tw_1 tw_240 hdX6_within rfl ⟨Nat.le_of_ble_eq_true rfl, Nat.le_of_ble_eq_true rfl⟩ rfl (Nat.le_of_ble_eq_true rfl) ⟨Nat.zero_le _, Nat.zero_le _⟩ ?_
        refine V_if_ne (tgt := 31) eX1_faultOf_26 rfl (fun hb3 => ?_) (fun hb3 => ?_)
        · replace h := (if_neg hb3).symm.trans h
          refine V_iinc (v := (a3 + (1 : Int32))) (lv' := [(3, .int (a3 + (1 : Int32))), (0, .ref (A 1)), (1, .int a1), (2, .int a2)]) eX1_faultOf_31 3 rfl rfl (Nat.le_of_ble_eq_true rfl) rfl ?_
          refine V_goto (tgt := 2) eX1_faultOf_34 rfl ?_
          refine V_lv (lv' := [(0, .ref (A 1)), (1, .int a1), (2, .int a2), (3, .int (a3 + (1 : Int32)))]) [1, 2, 3, 0] rfl ?_
          exact ih (a3 + (1 : Int32)) h
        · replace h := (if_pos hb3).symm.trans h
          refine V_iload_n eX1_faultOf_29 3 rfl ?_
          obtain rfl := Option.some.inj h
          exact V_ret eX1_faultOf_30 rfl ⟨rfl, rfl⟩
set_option maxRecDepth 20000 in
theorem ctX1_faultOf (l : Launch) (G : tg_G) (A : Nat → Nat) (c : SS) (p1 : Int32) (p2 : Int32) {z : Int32} (h : fX1_faultOf c p1 p2 = some z) : Mt l G yX1_faultOf cX1_faultOf 4 (some .int) (tg_R 1 22) [.ref (A 1), .int p1, .int p2] (wC G A c) (fun v w1 => v = some (.int z) ∧ w1 = wC G A c) := by
  refine Mt_of2 (own := "TramGod$Pad") (nm := "faultOf") rfl rfl rfl (Nat.le_of_ble_eq_true rfl) (lv := [(0, .ref (A 1)), (1, .int p1), (2, .int p2)]) rfl ?_
  unfold fX1_faultOf at h
  refine V_iconst (v := (0 : Int32)) eX1_faultOf_0 rfl ?_
  refine V_istore_n (lv' := [(3, .int (0 : Int32)), (0, .ref (A 1)), (1, .int p1), (2, .int p2)]) eX1_faultOf_1 (Nat.le_of_ble_eq_true rfl) rfl ?_
  refine V_lv (lv' := [(0, .ref (A 1)), (1, .int p1), (2, .int p2), (3, .int (0 : Int32))]) [1, 2, 3, 0] rfl ?_
  refine ctX1_faultOf_L2 l G A _ c p1 p2 ?_ fu (0 : Int32) h
  · intro h
    refine V_aload_n eX1_faultOf_37 0 rfl ?_
    refine V_get (v := .int (c.1 0)) eX1_faultOf_38 inX1 1 rfl rfl 1 (Nat.le_of_ble_eq_true rfl) tw_27 rfl ?_
    refine V_iload_n eX1_faultOf_41 1 rfl ?_
    refine V_icmp_ge (tgt := 52) eX1_faultOf_42 rfl (fun hb4 => ?_) (fun hb4 => ?_)
    · replace h := (if_pos hb4).symm.trans h
      refine V_bipush (v := (-6 : Int32)) eX1_faultOf_52 rfl ?_
      obtain rfl := Option.some.inj h
      exact V_ret eX1_faultOf_54 rfl ⟨rfl, rfl⟩
    · replace h := (if_neg hb4).symm.trans h
      refine V_aload_n eX1_faultOf_45 0 rfl ?_
      refine V_get (v := .int (c.1 0)) eX1_faultOf_46 inX1 1 rfl rfl 1 (Nat.le_of_ble_eq_true rfl) tw_27 rfl ?_
      refine V_goto (tgt := 54) eX1_faultOf_49 rfl ?_
      obtain rfl := Option.some.inj h
      exact V_ret eX1_faultOf_54 rfl ⟨rfl, rfl⟩
theorem hdX7_in : yX7_in.cls ≠ "java/lang/invoke/MethodHandle" ∧ yX7_in.cls ≠ "java/lang/invoke/VarHandle" ∧ (parseMethodDescriptor yX7_in.desc).map (fun d => d.parameters.length) = some 3 := by decide +kernel
theorem eX7_in_0 : Dc cX7_in 0 (.lload_n 0) 1 1 := ⟨by decide +kernel, rfl⟩
theorem eX7_in_1 : Dc cX7_in 1 (.lload_n 2) 1 2 := ⟨by decide +kernel, rfl⟩
theorem eX7_in_2 : Dc cX7_in 2 (.lcmp) 1 3 := ⟨by decide +kernel, rfl⟩
theorem eX7_in_3 : Dc cX7_in 3 (.ifCond .lt 14) 3 6 := ⟨by decide +kernel, rfl⟩
theorem eX7_in_6 : Dc cX7_in 6 (.lload_n 0) 1 7 := ⟨by decide +kernel, rfl⟩
theorem eX7_in_7 : Dc cX7_in 7 (.lload 4) 2 9 := ⟨by decide +kernel, rfl⟩
theorem eX7_in_9 : Dc cX7_in 9 (.lcmp) 1 10 := ⟨by decide +kernel, rfl⟩
theorem eX7_in_10 : Dc cX7_in 10 (.ifCond .gt 7) 3 13 := ⟨by decide +kernel, rfl⟩
theorem eX7_in_13 : Dc cX7_in 13 (.iconst 1) 1 14 := ⟨by decide +kernel, rfl⟩
theorem eX7_in_14 : Dc cX7_in 14 (.goto 4) 3 17 := ⟨by decide +kernel, rfl⟩
theorem eX7_in_17 : Dc cX7_in 17 (.iconst 0) 1 18 := ⟨by decide +kernel, rfl⟩
theorem eX7_in_18 : Dc cX7_in 18 (.ireturn) 1 19 := ⟨by decide +kernel, rfl⟩
def fX7_in (p0 : Int64) (p2 : Int64) (p4 : Int64) : Int32 := if (lg_cmp p0 p2) < (0 : Int32) then (0 : Int32) else if (0 : Int32) < (lg_cmp p0 p4) then (0 : Int32) else (1 : Int32)
set_option maxRecDepth 20000 in
theorem ctX7_in (l : Launch) (G : tg_G) (w : va_W) (p0 : Int64) (p2 : Int64) (p4 : Int64) {z : Int32} (h : fX7_in p0 p2 p4 = z) : Mt l G yX7_in cX7_in 6 (some .boolean) (tg_R 0 0) [.long p0, .long p2, .long p4] (w) (fun v w1 => v = some (.int z) ∧ w1 = w) := by
  refine Mt_of2 (own := "TramGodModel") (nm := "in") rfl rfl rfl (Nat.le_of_ble_eq_true rfl) (lv := [(0, .long p0), (2, .long p2), (4, .long p4)]) rfl ?_
  unfold fX7_in at h
  refine V_lload_n eX7_in_0 0 rfl ?_
  refine V_lload_n eX7_in_1 1 rfl ?_
  refine V_lcmp eX7_in_2 ?_
  refine V_if_lt (tgt := 17) eX7_in_3 rfl (fun hb1 => ?_) (fun hb1 => ?_)
  · replace h := (if_pos hb1).symm.trans h
    refine V_iconst (v := (0 : Int32)) eX7_in_17 rfl ?_
    subst h
    exact V_zret eX7_in_18 rfl rfl ⟨rfl, rfl⟩
  · replace h := (if_neg hb1).symm.trans h
    refine V_lload_n eX7_in_6 0 rfl ?_
    refine V_lload eX7_in_7 2 rfl ?_
    refine V_lcmp eX7_in_9 ?_
    refine V_if_gt (tgt := 17) eX7_in_10 rfl (fun hb2 => ?_) (fun hb2 => ?_)
    · replace h := (if_pos hb2).symm.trans h
      refine V_iconst (v := (0 : Int32)) eX7_in_17 rfl ?_
      subst h
      exact V_zret eX7_in_18 rfl rfl ⟨rfl, rfl⟩
    · replace h := (if_neg hb2).symm.trans h
      refine V_iconst (v := (1 : Int32)) eX7_in_13 rfl ?_
      refine V_goto (tgt := 18) eX7_in_14 rfl ?_
      subst h
      exact V_zret eX7_in_18 rfl rfl ⟨rfl, rfl⟩
theorem bzX7_in (p0 : Int64) (p2 : Int64) (p4 : Int64) : narrow .boolean (.int (fX7_in p0 p2 p4)) = .int (fX7_in p0 p2 p4) := by
  unfold fX7_in
  repeat' split
  all_goals first | rfl
theorem hdX7_isThere : yX7_isThere.cls ≠ "java/lang/invoke/MethodHandle" ∧ yX7_isThere.cls ≠ "java/lang/invoke/VarHandle" ∧ (parseMethodDescriptor yX7_isThere.desc).map (fun d => d.parameters.length) = some 1 := by decide +kernel
theorem eX7_isThere_0 : Dc cX7_isThere 0 (.iload_n 1) 1 1 := ⟨by decide +kernel, rfl⟩
theorem eX7_isThere_1 : Dc cX7_isThere 1 (.i2l) 1 2 := ⟨by decide +kernel, rfl⟩
theorem eX7_isThere_2 : Dc cX7_isThere 2 (.lconst 0) 1 3 := ⟨by decide +kernel, rfl⟩
theorem eX7_isThere_3 : Dc cX7_isThere 3 (.ldc2_w 86) 3 6 := ⟨by decide +kernel, rfl⟩
theorem eX7_isThere_6 : Dc cX7_isThere 6 (.invokestatic 79) 3 9 := ⟨by decide +kernel, rfl⟩
theorem eX7_isThere_9 : Dc cX7_isThere 9 (.ifCond .eq 19) 3 12 := ⟨by decide +kernel, rfl⟩
theorem eX7_isThere_12 : Dc cX7_isThere 12 (.aload_n 0) 1 13 := ⟨by decide +kernel, rfl⟩
theorem eX7_isThere_13 : Dc cX7_isThere 13 (.getfield 88) 3 16 := ⟨by decide +kernel, rfl⟩
theorem eX7_isThere_16 : Dc cX7_isThere 16 (.iload_n 1) 1 17 := ⟨by decide +kernel, rfl⟩
theorem eX7_isThere_17 : Dc cX7_isThere 17 (.ishr) 1 18 := ⟨by decide +kernel, rfl⟩
theorem eX7_isThere_18 : Dc cX7_isThere 18 (.iconst 1) 1 19 := ⟨by decide +kernel, rfl⟩
theorem eX7_isThere_19 : Dc cX7_isThere 19 (.iand) 1 20 := ⟨by decide +kernel, rfl⟩
theorem eX7_isThere_20 : Dc cX7_isThere 20 (.iconst 1) 1 21 := ⟨by decide +kernel, rfl⟩
theorem eX7_isThere_21 : Dc cX7_isThere 21 (.if_icmp .ne 7) 3 24 := ⟨by decide +kernel, rfl⟩
theorem eX7_isThere_24 : Dc cX7_isThere 24 (.iconst 1) 1 25 := ⟨by decide +kernel, rfl⟩
theorem eX7_isThere_25 : Dc cX7_isThere 25 (.goto 4) 3 28 := ⟨by decide +kernel, rfl⟩
theorem eX7_isThere_28 : Dc cX7_isThere 28 (.iconst 0) 1 29 := ⟨by decide +kernel, rfl⟩
theorem eX7_isThere_29 : Dc cX7_isThere 29 (.ireturn) 1 30 := ⟨by decide +kernel, rfl⟩
def fX7_isThere (c : SS) (p1 : Int32) : Int32 := if (fX7_in (p1).toInt64 (0 : Int64) (7 : Int64)) = (0 : Int32) then (0 : Int32) else if (((c.1 3) >>> (p1 &&& 31)) &&& (1 : Int32)) = (1 : Int32) then (1 : Int32) else (0 : Int32)
set_option maxRecDepth 20000 in
theorem ctX7_isThere (l : Launch) (G : tg_G) (A : Nat → Nat) (c : SS) (p1 : Int32) {z : Int32} (h : fX7_isThere c p1 = z) : Mt l G yX7_isThere cX7_isThere 2 (some .boolean) (tg_R 1 25) [.ref (A 0), .int p1] (wM G A c) (fun v w1 => v = some (.int z) ∧ w1 = wM G A c) := by
  refine Mt_of2 (own := "TramGodModel") (nm := "isThere") rfl rfl rfl (Nat.le_of_ble_eq_true rfl) (lv := [(0, .ref (A 0)), (1, .int p1)]) rfl ?_
  unfold fX7_isThere at h
  refine V_iload_n eX7_isThere_0 1 rfl ?_
  refine V_i2l eX7_isThere_1 ?_
  refine V_lconst (v := (0 : Int64)) eX7_isThere_2 rfl ?_
  refine V_ldc2 eX7_isThere_3 tw_779 ?_
  refine V_callSi (rest := []) eX7_isThere_6 (ctX7_in l G _ (p1).toInt64 (0 : Int64) (7 : Int64) rfl) tc_748 tw_746 tw_8 tw_747 hdX7_in rfl ⟨Nat.le_of_ble_eq_true rfl, Nat.le_of_ble_eq_true rfl⟩ rfl (Nat.le_of_ble_eq_true rfl) ⟨Nat.zero_le _, Nat.zero_le _⟩ ?_
  refine V_if_eq (tgt := 28) eX7_isThere_9 rfl (fun hb3 => ?_) (fun hb3 => ?_)
  · replace h := (if_pos hb3).symm.trans h
    refine V_iconst (v := (0 : Int32)) eX7_isThere_28 rfl ?_
    subst h
    exact V_zret eX7_isThere_29 rfl rfl ⟨rfl, rfl⟩
  · replace h := (if_neg hb3).symm.trans h
    refine V_aload_n eX7_isThere_12 0 rfl ?_
    refine V_get (v := .int (c.1 3)) eX7_isThere_13 inX7 0 rfl rfl 3 (Nat.le_of_ble_eq_true rfl) tw_648 rfl ?_
    refine V_iload_n eX7_isThere_16 1 rfl ?_
    refine V_ishr eX7_isThere_17 ?_
    refine V_iconst (v := (1 : Int32)) eX7_isThere_18 rfl ?_
    refine V_iand eX7_isThere_19 ?_
    refine V_iconst (v := (1 : Int32)) eX7_isThere_20 rfl ?_
    refine V_icmp_ne (tgt := 28) eX7_isThere_21 rfl (fun hb4 => ?_) (fun hb4 => ?_)
    · replace h := (if_neg hb4).symm.trans h
      refine V_iconst (v := (0 : Int32)) eX7_isThere_28 rfl ?_
      subst h
      exact V_zret eX7_isThere_29 rfl rfl ⟨rfl, rfl⟩
    · replace h := (if_pos hb4).symm.trans h
      refine V_iconst (v := (1 : Int32)) eX7_isThere_24 rfl ?_
      refine V_goto (tgt := 29) eX7_isThere_25 rfl ?_
      subst h
      exact V_zret eX7_isThere_29 rfl rfl ⟨rfl, rfl⟩
theorem bzX7_isThere (c : SS) (p1 : Int32) : narrow .boolean (.int (fX7_isThere c p1)) = .int (fX7_isThere c p1) := by
  unfold fX7_isThere
  repeat' split
  all_goals first | rfl | exact (bzX7_in (p1).toInt64 (0 : Int64) (7 : Int64))
theorem hdX7_goodOf : yX7_goodOf.cls ≠ "java/lang/invoke/MethodHandle" ∧ yX7_goodOf.cls ≠ "java/lang/invoke/VarHandle" ∧ (parseMethodDescriptor yX7_goodOf.desc).map (fun d => d.parameters.length) = some 2 := by decide +kernel
theorem eX7_goodOf_0 : Dc cX7_goodOf 0 (.iconst 0) 1 1 := ⟨by decide +kernel, rfl⟩
theorem eX7_goodOf_1 : Dc cX7_goodOf 1 (.istore_n 3) 1 2 := ⟨by decide +kernel, rfl⟩
theorem eX7_goodOf_2 : Dc cX7_goodOf 2 (.iconst 0) 1 3 := ⟨by decide +kernel, rfl⟩
theorem eX7_goodOf_3 : Dc cX7_goodOf 3 (.istore 4) 2 5 := ⟨by decide +kernel, rfl⟩
theorem eX7_goodOf_5 : Dc cX7_goodOf 5 (.iload 4) 2 7 := ⟨by decide +kernel, rfl⟩
theorem eX7_goodOf_7 : Dc cX7_goodOf 7 (.bipush 8) 2 9 := ⟨by decide +kernel, rfl⟩
theorem eX7_goodOf_9 : Dc cX7_goodOf 9 (.if_icmp .ge 74) 3 12 := ⟨by decide +kernel, rfl⟩
theorem eX7_goodOf_12 : Dc cX7_goodOf 12 (.aload_n 0) 1 13 := ⟨by decide +kernel, rfl⟩
theorem eX7_goodOf_13 : Dc cX7_goodOf 13 (.iload 4) 2 15 := ⟨by decide +kernel, rfl⟩
theorem eX7_goodOf_15 : Dc cX7_goodOf 15 (.invokevirtual 126) 3 18 := ⟨by decide +kernel, rfl⟩
theorem eX7_goodOf_18 : Dc cX7_goodOf 18 (.ifCond .eq 17) 3 21 := ⟨by decide +kernel, rfl⟩
theorem eX7_goodOf_21 : Dc cX7_goodOf 21 (.iload_n 2) 1 22 := ⟨by decide +kernel, rfl⟩
theorem eX7_goodOf_22 : Dc cX7_goodOf 22 (.iload 4) 2 24 := ⟨by decide +kernel, rfl⟩
theorem eX7_goodOf_24 : Dc cX7_goodOf 24 (.ishr) 1 25 := ⟨by decide +kernel, rfl⟩
theorem eX7_goodOf_25 : Dc cX7_goodOf 25 (.iconst 1) 1 26 := ⟨by decide +kernel, rfl⟩
theorem eX7_goodOf_26 : Dc cX7_goodOf 26 (.iand) 1 27 := ⟨by decide +kernel, rfl⟩
theorem eX7_goodOf_27 : Dc cX7_goodOf 27 (.iconst 1) 1 28 := ⟨by decide +kernel, rfl⟩
theorem eX7_goodOf_28 : Dc cX7_goodOf 28 (.if_icmp .ne 7) 3 31 := ⟨by decide +kernel, rfl⟩
theorem eX7_goodOf_31 : Dc cX7_goodOf 31 (.iconst 1) 1 32 := ⟨by decide +kernel, rfl⟩
theorem eX7_goodOf_32 : Dc cX7_goodOf 32 (.goto 4) 3 35 := ⟨by decide +kernel, rfl⟩
theorem eX7_goodOf_35 : Dc cX7_goodOf 35 (.iconst 0) 1 36 := ⟨by decide +kernel, rfl⟩
theorem eX7_goodOf_36 : Dc cX7_goodOf 36 (.istore 5) 2 38 := ⟨by decide +kernel, rfl⟩
theorem eX7_goodOf_38 : Dc cX7_goodOf 38 (.iload_n 3) 1 39 := ⟨by decide +kernel, rfl⟩
theorem eX7_goodOf_39 : Dc cX7_goodOf 39 (.iload 5) 2 41 := ⟨by decide +kernel, rfl⟩
theorem eX7_goodOf_41 : Dc cX7_goodOf 41 (.ifCond .ne 7) 3 44 := ⟨by decide +kernel, rfl⟩
theorem eX7_goodOf_44 : Dc cX7_goodOf 44 (.iconst 0) 1 45 := ⟨by decide +kernel, rfl⟩
theorem eX7_goodOf_45 : Dc cX7_goodOf 45 (.goto 30) 3 48 := ⟨by decide +kernel, rfl⟩
theorem eX7_goodOf_48 : Dc cX7_goodOf 48 (.iload_n 1) 1 49 := ⟨by decide +kernel, rfl⟩
theorem eX7_goodOf_49 : Dc cX7_goodOf 49 (.iload 4) 2 51 := ⟨by decide +kernel, rfl⟩
theorem eX7_goodOf_51 : Dc cX7_goodOf 51 (.ishr) 1 52 := ⟨by decide +kernel, rfl⟩
theorem eX7_goodOf_52 : Dc cX7_goodOf 52 (.iconst 1) 1 53 := ⟨by decide +kernel, rfl⟩
theorem eX7_goodOf_53 : Dc cX7_goodOf 53 (.iand) 1 54 := ⟨by decide +kernel, rfl⟩
theorem eX7_goodOf_54 : Dc cX7_goodOf 54 (.iconst 1) 1 55 := ⟨by decide +kernel, rfl⟩
theorem eX7_goodOf_55 : Dc cX7_goodOf 55 (.if_icmp .ne 13) 3 58 := ⟨by decide +kernel, rfl⟩
theorem eX7_goodOf_58 : Dc cX7_goodOf 58 (.aload_n 0) 1 59 := ⟨by decide +kernel, rfl⟩
theorem eX7_goodOf_59 : Dc cX7_goodOf 59 (.getfield 19) 3 62 := ⟨by decide +kernel, rfl⟩
theorem eX7_goodOf_62 : Dc cX7_goodOf 62 (.iload 4) 2 64 := ⟨by decide +kernel, rfl⟩
theorem eX7_goodOf_64 : Dc cX7_goodOf 64 (.iaload) 1 65 := ⟨by decide +kernel, rfl⟩
theorem eX7_goodOf_65 : Dc cX7_goodOf 65 (.goto 10) 3 68 := ⟨by decide +kernel, rfl⟩
theorem eX7_goodOf_68 : Dc cX7_goodOf 68 (.aload_n 0) 1 69 := ⟨by decide +kernel, rfl⟩
theorem eX7_goodOf_69 : Dc cX7_goodOf 69 (.getfield 22) 3 72 := ⟨by decide +kernel, rfl⟩
theorem eX7_goodOf_72 : Dc cX7_goodOf 72 (.iload 4) 2 74 := ⟨by decide +kernel, rfl⟩
theorem eX7_goodOf_74 : Dc cX7_goodOf 74 (.iaload) 1 75 := ⟨by decide +kernel, rfl⟩
theorem eX7_goodOf_75 : Dc cX7_goodOf 75 (.iadd) 1 76 := ⟨by decide +kernel, rfl⟩
theorem eX7_goodOf_76 : Dc cX7_goodOf 76 (.istore_n 3) 1 77 := ⟨by decide +kernel, rfl⟩
theorem eX7_goodOf_77 : Dc cX7_goodOf 77 (.iinc 4 1) 3 80 := ⟨by decide +kernel, rfl⟩
theorem eX7_goodOf_80 : Dc cX7_goodOf 80 (.goto (-75)) 3 83 := ⟨by decide +kernel, rfl⟩
theorem eX7_goodOf_83 : Dc cX7_goodOf 83 (.iload_n 3) 1 84 := ⟨by decide +kernel, rfl⟩
theorem eX7_goodOf_84 : Dc cX7_goodOf 84 (.ireturn) 1 85 := ⟨by decide +kernel, rfl⟩
def fX7_goodOf_L5  (c : SS) (a1 : Int32) (a2 : Int32) : Nat → Int32 → Int32 → Option (Int32)
  | 0, _, _ => none
  | n + 1, a3, a4 => if (8 : Int32) ≤ a4 then some a3 else jn (fun (x5 : Int32) => jn (fun (x6 : Int32) => fX7_goodOf_L5 c a1 a2 n (a3 + x6) (a4 + (1 : Int32))) (fun j75 => if x5 = (0 : Int32) then j75 (0 : Int32) else if ((a1 >>> (a4 &&& 31)) &&& (1 : Int32)) = (1 : Int32) then ald 8 (c.2 6) a4 (fun v10 => j75 v10) else ald 8 (c.2 7) a4 (fun v9 => j75 v9))) (fun j36 => jn (fun (_ : Unit) => j36 (0 : Int32)) (fun j35 => if (fX7_isThere c a4) = (0 : Int32) then j35 () else if ((a2 >>> (a4 &&& 31)) &&& (1 : Int32)) = (1 : Int32) then j36 (1 : Int32) else j35 ()))
def fX7_goodOf (c : SS) (p1 : Int32) (p2 : Int32) : Option (Int32) := fX7_goodOf_L5 c p1 p2 fu (0 : Int32) (0 : Int32)
set_option maxRecDepth 20000 in
theorem ctX7_goodOf_L5 (l : Launch) (G : tg_G) (A : Nat → Nat)  (c : SS) (a1 : Int32) (a2 : Int32) {z : Int32}  : ∀ (n : Nat) (a3 : Int32) (a4 : Int32), fX7_goodOf_L5 c a1 a2 n a3 a4 = some z → V l G (tg_Zm G (fun v w1 => v = some (.int z) ∧ w1 = wM G A c) 0 0) tg_E0 (tg_R 2 46) "TramGodModel" "goodOf" cX7_goodOf 6 (some .int) 5 [(0, .ref (A 0)), (1, .int a1), (2, .int a2), (3, .int a3), (4, .int a4)] [] (wM G A c) 0 0 := by
  intro n
  induction n with
  | zero => intro a3 a4 h; exact absurd h (by simp [fX7_goodOf_L5])
  | succ n ih =>
    intro a3 a4 h
    unfold fX7_goodOf_L5 at h
    refine V_iload eX7_goodOf_5 4 rfl ?_
    refine V_bipush (v := (8 : Int32)) eX7_goodOf_7 rfl ?_
    refine V_icmp_ge (tgt := 83) eX7_goodOf_9 rfl (fun hb1 => ?_) (fun hb1 => ?_)
    · replace h := (if_pos hb1).symm.trans h
      refine V_iload_n eX7_goodOf_83 3 rfl ?_
      obtain rfl := Option.some.inj h
      exact V_ret eX7_goodOf_84 rfl ⟨rfl, rfl⟩
    · replace h := (if_neg hb1).symm.trans h
      refine V_aload_n eX7_goodOf_12 0 rfl ?_
      refine V_iload eX7_goodOf_13 4 rfl ?_
      refine V_callVi (rest := []) eX7_goodOf_15 (ctX7_isThere l G A c a4 rfl) tc_796 tw_793 tw_8 tw_795 ts_22 0 rfl rfl hdX7_isThere rfl ⟨Nat.le_of_ble_eq_true rfl, Nat.le_of_ble_eq_true rfl⟩ rfl (Nat.le_of_ble_eq_true rfl) ⟨Nat.zero_le _, Nat.zero_le _⟩ ?_
      refine jn_elim h (fun j => ∀ (x5 : Int32), j x5 = some z → V l G (tg_Zm G (fun v w1 => v = some (.int z) ∧ w1 = wM G A c) 0 0) tg_E0 (tg_R 2 46) "TramGodModel" "goodOf" cX7_goodOf 6 (some .int) 36 [(0, .ref (A 0)), (1, .int a1), (2, .int a2), (3, .int a3), (4, .int a4)] [.int x5] (wM G A c) 0 0) ?_ (fun j36 hj36 h => ?_)
      · intro x5 h
        refine V_istore (lv' := [(5, .int x5), (0, .ref (A 0)), (1, .int a1), (2, .int a2), (3, .int a3), (4, .int a4)]) eX7_goodOf_36 (Nat.le_of_ble_eq_true rfl) rfl ?_
        refine V_iload_n eX7_goodOf_38 4 rfl ?_
        refine V_iload eX7_goodOf_39 0 rfl ?_
        refine jn_elim h (fun j => ∀ (x6 : Int32), j x6 = some z → V l G (tg_Zm G (fun v w1 => v = some (.int z) ∧ w1 = wM G A c) 0 0) tg_E0 (tg_R 2 46) "TramGodModel" "goodOf" cX7_goodOf 6 (some .int) 75 [(0, .ref (A 0)), (1, .int a1), (2, .int a2), (4, .int a4)] [.int x6, .int a3] (wM G A c) 0 0) ?_ (fun j75 hj75 h => ?_)
        · intro x6 h
          refine V_iadd eX7_goodOf_75 ?_
          refine V_istore_n (lv' := [(3, .int (a3 + x6)), (0, .ref (A 0)), (1, .int a1), (2, .int a2), (4, .int a4)]) eX7_goodOf_76 (Nat.le_of_ble_eq_true rfl) rfl ?_
          refine V_iinc (v := (a4 + (1 : Int32))) (lv' := [(4, .int (a4 + (1 : Int32))), (3, .int (a3 + x6)), (0, .ref (A 0)), (1, .int a1), (2, .int a2)]) eX7_goodOf_77 4 rfl rfl (Nat.le_of_ble_eq_true rfl) rfl ?_
          refine V_goto (tgt := 5) eX7_goodOf_80 rfl ?_
          refine V_lv (lv' := [(0, .ref (A 0)), (1, .int a1), (2, .int a2), (3, .int (a3 + x6)), (4, .int (a4 + (1 : Int32)))]) [2, 3, 4, 1, 0] rfl ?_
          exact ih (a3 + x6) (a4 + (1 : Int32)) h
        refine V_if_ne (tgt := 48) eX7_goodOf_41 rfl (fun hb7 => ?_) (fun hb7 => ?_)
        · replace h := (if_neg hb7).symm.trans h
          refine V_iload_n eX7_goodOf_48 2 rfl ?_
          refine V_iload eX7_goodOf_49 5 rfl ?_
          refine V_ishr eX7_goodOf_51 ?_
          refine V_iconst (v := (1 : Int32)) eX7_goodOf_52 rfl ?_
          refine V_iand eX7_goodOf_53 ?_
          refine V_iconst (v := (1 : Int32)) eX7_goodOf_54 rfl ?_
          refine V_icmp_ne (tgt := 68) eX7_goodOf_55 rfl (fun hb8 => ?_) (fun hb8 => ?_)
          · replace h := (if_neg hb8).symm.trans h
            refine V_aload_n eX7_goodOf_68 1 rfl ?_
            refine V_get (v := .ref (A 5)) eX7_goodOf_69 inX7 0 rfl rfl 7 (Nat.le_of_ble_eq_true rfl) tw_652 rfl ?_
            refine V_iload eX7_goodOf_72 5 rfl ?_
            obtain ⟨v9, hi9, ev9, h⟩ := ald_some h
            refine V_ialdv eX7_goodOf_74 5 rfl hi9 ev9 ?_
            refine V_lv (lv' := [(0, .ref (A 0)), (1, .int a1), (2, .int a2), (4, .int a4)]) [1, 2, 3, 5] rfl ?_
            exact hj75 v9 h
          · replace h := (if_pos hb8).symm.trans h
            refine V_aload_n eX7_goodOf_58 1 rfl ?_
            refine V_get (v := .ref (A 4)) eX7_goodOf_59 inX7 0 rfl rfl 6 (Nat.le_of_ble_eq_true rfl) tw_651 rfl ?_
            refine V_iload eX7_goodOf_62 5 rfl ?_
            obtain ⟨v10, hi10, ev10, h⟩ := ald_some h
            refine V_ialdv eX7_goodOf_64 4 rfl hi10 ev10 ?_
            refine V_goto (tgt := 75) eX7_goodOf_65 rfl ?_
            refine V_lv (lv' := [(0, .ref (A 0)), (1, .int a1), (2, .int a2), (4, .int a4)]) [1, 2, 3, 5] rfl ?_
            exact hj75 v10 h
        · replace h := (if_pos hb7).symm.trans h
          refine V_iconst (v := (0 : Int32)) eX7_goodOf_44 rfl ?_
          refine V_goto (tgt := 75) eX7_goodOf_45 rfl ?_
          refine V_lv (lv' := [(0, .ref (A 0)), (1, .int a1), (2, .int a2), (4, .int a4)]) [1, 2, 3, 5] rfl ?_
          exact hj75 (0 : Int32) h
      refine jn_elim h (fun j => j () = some z → V l G (tg_Zm G (fun v w1 => v = some (.int z) ∧ w1 = wM G A c) 0 0) tg_E0 (tg_R 2 46) "TramGodModel" "goodOf" cX7_goodOf 6 (some .int) 35 [(0, .ref (A 0)), (1, .int a1), (2, .int a2), (3, .int a3), (4, .int a4)] [] (wM G A c) 0 0) ?_ (fun j35 hj35 h => ?_)
      · intro h
        refine V_iconst (v := (0 : Int32)) eX7_goodOf_35 rfl ?_
        exact hj36 (0 : Int32) h
      refine V_if_eq (tgt := 35) eX7_goodOf_18 rfl (fun hb11 => ?_) (fun hb11 => ?_)
      · replace h := (if_pos hb11).symm.trans h
        exact hj35 h
      · replace h := (if_neg hb11).symm.trans h
        refine V_iload_n eX7_goodOf_21 2 rfl ?_
        refine V_iload eX7_goodOf_22 4 rfl ?_
        refine V_ishr eX7_goodOf_24 ?_
        refine V_iconst (v := (1 : Int32)) eX7_goodOf_25 rfl ?_
        refine V_iand eX7_goodOf_26 ?_
        refine V_iconst (v := (1 : Int32)) eX7_goodOf_27 rfl ?_
        refine V_icmp_ne (tgt := 35) eX7_goodOf_28 rfl (fun hb12 => ?_) (fun hb12 => ?_)
        · replace h := (if_neg hb12).symm.trans h
          exact hj35 h
        · replace h := (if_pos hb12).symm.trans h
          refine V_iconst (v := (1 : Int32)) eX7_goodOf_31 rfl ?_
          refine V_goto (tgt := 36) eX7_goodOf_32 rfl ?_
          exact hj36 (1 : Int32) h
set_option maxRecDepth 20000 in
theorem ctX7_goodOf (l : Launch) (G : tg_G) (A : Nat → Nat) (c : SS) (p1 : Int32) (p2 : Int32) {z : Int32} (h : fX7_goodOf c p1 p2 = some z) : Mt l G yX7_goodOf cX7_goodOf 6 (some .int) (tg_R 2 46) [.ref (A 0), .int p1, .int p2] (wM G A c) (fun v w1 => v = some (.int z) ∧ w1 = wM G A c) := by
  refine Mt_of2 (own := "TramGodModel") (nm := "goodOf") rfl rfl rfl (Nat.le_of_ble_eq_true rfl) (lv := [(0, .ref (A 0)), (1, .int p1), (2, .int p2)]) rfl ?_
  unfold fX7_goodOf at h
  refine V_iconst (v := (0 : Int32)) eX7_goodOf_0 rfl ?_
  refine V_istore_n (lv' := [(3, .int (0 : Int32)), (0, .ref (A 0)), (1, .int p1), (2, .int p2)]) eX7_goodOf_1 (Nat.le_of_ble_eq_true rfl) rfl ?_
  refine V_iconst (v := (0 : Int32)) eX7_goodOf_2 rfl ?_
  refine V_istore (lv' := [(4, .int (0 : Int32)), (3, .int (0 : Int32)), (0, .ref (A 0)), (1, .int p1), (2, .int p2)]) eX7_goodOf_3 (Nat.le_of_ble_eq_true rfl) rfl ?_
  refine V_lv (lv' := [(0, .ref (A 0)), (1, .int p1), (2, .int p2), (3, .int (0 : Int32)), (4, .int (0 : Int32))]) [2, 3, 4, 1, 0] rfl ?_
  refine ctX7_goodOf_L5 l G A c p1 p2 fu (0 : Int32) (0 : Int32) h
theorem hdX7_isOpen : yX7_isOpen.cls ≠ "java/lang/invoke/MethodHandle" ∧ yX7_isOpen.cls ≠ "java/lang/invoke/VarHandle" ∧ (parseMethodDescriptor yX7_isOpen.desc).map (fun d => d.parameters.length) = some 1 := by decide +kernel
theorem eX7_isOpen_0 : Dc cX7_isOpen 0 (.aload_n 0) 1 1 := ⟨by decide +kernel, rfl⟩
theorem eX7_isOpen_1 : Dc cX7_isOpen 1 (.getfield 83) 3 4 := ⟨by decide +kernel, rfl⟩
theorem eX7_isOpen_4 : Dc cX7_isOpen 4 (.iload_n 1) 1 5 := ⟨by decide +kernel, rfl⟩
theorem eX7_isOpen_5 : Dc cX7_isOpen 5 (.ishr) 1 6 := ⟨by decide +kernel, rfl⟩
theorem eX7_isOpen_6 : Dc cX7_isOpen 6 (.iconst 1) 1 7 := ⟨by decide +kernel, rfl⟩
theorem eX7_isOpen_7 : Dc cX7_isOpen 7 (.iand) 1 8 := ⟨by decide +kernel, rfl⟩
theorem eX7_isOpen_8 : Dc cX7_isOpen 8 (.ifCond .ne 7) 3 11 := ⟨by decide +kernel, rfl⟩
theorem eX7_isOpen_11 : Dc cX7_isOpen 11 (.iconst 1) 1 12 := ⟨by decide +kernel, rfl⟩
theorem eX7_isOpen_12 : Dc cX7_isOpen 12 (.goto 4) 3 15 := ⟨by decide +kernel, rfl⟩
theorem eX7_isOpen_15 : Dc cX7_isOpen 15 (.iconst 0) 1 16 := ⟨by decide +kernel, rfl⟩
theorem eX7_isOpen_16 : Dc cX7_isOpen 16 (.ireturn) 1 17 := ⟨by decide +kernel, rfl⟩
def fX7_isOpen (c : SS) (p1 : Int32) : Int32 := if (((c.1 2) >>> (p1 &&& 31)) &&& (1 : Int32)) = (0 : Int32) then (1 : Int32) else (0 : Int32)
set_option maxRecDepth 20000 in
theorem ctX7_isOpen (l : Launch) (G : tg_G) (A : Nat → Nat) (c : SS) (p1 : Int32) {z : Int32} (h : fX7_isOpen c p1 = z) : Mt l G yX7_isOpen cX7_isOpen 2 (some .boolean) (tg_R 0 0) [.ref (A 0), .int p1] (wM G A c) (fun v w1 => v = some (.int z) ∧ w1 = wM G A c) := by
  refine Mt_of2 (own := "TramGodModel") (nm := "isOpen") rfl rfl rfl (Nat.le_of_ble_eq_true rfl) (lv := [(0, .ref (A 0)), (1, .int p1)]) rfl ?_
  unfold fX7_isOpen at h
  refine V_aload_n eX7_isOpen_0 0 rfl ?_
  refine V_get (v := .int (c.1 2)) eX7_isOpen_1 inX7 0 rfl rfl 2 (Nat.le_of_ble_eq_true rfl) tw_647 rfl ?_
  refine V_iload_n eX7_isOpen_4 1 rfl ?_
  refine V_ishr eX7_isOpen_5 ?_
  refine V_iconst (v := (1 : Int32)) eX7_isOpen_6 rfl ?_
  refine V_iand eX7_isOpen_7 ?_
  refine V_if_ne (tgt := 15) eX7_isOpen_8 rfl (fun hb1 => ?_) (fun hb1 => ?_)
  · replace h := (if_neg hb1).symm.trans h
    refine V_iconst (v := (0 : Int32)) eX7_isOpen_15 rfl ?_
    subst h
    exact V_zret eX7_isOpen_16 rfl rfl ⟨rfl, rfl⟩
  · replace h := (if_pos hb1).symm.trans h
    refine V_iconst (v := (1 : Int32)) eX7_isOpen_11 rfl ?_
    refine V_goto (tgt := 16) eX7_isOpen_12 rfl ?_
    subst h
    exact V_zret eX7_isOpen_16 rfl rfl ⟨rfl, rfl⟩
theorem bzX7_isOpen (c : SS) (p1 : Int32) : narrow .boolean (.int (fX7_isOpen c p1)) = .int (fX7_isOpen c p1) := by
  unfold fX7_isOpen
  repeat' split
  all_goals first | rfl
theorem hdX7_findLeaves : yX7_findLeaves.cls ≠ "java/lang/invoke/MethodHandle" ∧ yX7_findLeaves.cls ≠ "java/lang/invoke/VarHandle" ∧ (parseMethodDescriptor yX7_findLeaves.desc).map (fun d => d.parameters.length) = some 0 := by decide +kernel
theorem eX7_findLeaves_0 : Dc cX7_findLeaves 0 (.iconst 0) 1 1 := ⟨by decide +kernel, rfl⟩
theorem eX7_findLeaves_1 : Dc cX7_findLeaves 1 (.istore_n 1) 1 2 := ⟨by decide +kernel, rfl⟩
theorem eX7_findLeaves_2 : Dc cX7_findLeaves 2 (.iconst 0) 1 3 := ⟨by decide +kernel, rfl⟩
theorem eX7_findLeaves_3 : Dc cX7_findLeaves 3 (.istore_n 2) 1 4 := ⟨by decide +kernel, rfl⟩
theorem eX7_findLeaves_4 : Dc cX7_findLeaves 4 (.iload_n 2) 1 5 := ⟨by decide +kernel, rfl⟩
theorem eX7_findLeaves_5 : Dc cX7_findLeaves 5 (.aload_n 0) 1 6 := ⟨by decide +kernel, rfl⟩
theorem eX7_findLeaves_6 : Dc cX7_findLeaves 6 (.getfield 69) 3 9 := ⟨by decide +kernel, rfl⟩
theorem eX7_findLeaves_9 : Dc cX7_findLeaves 9 (.if_icmp .ge 69) 3 12 := ⟨by decide +kernel, rfl⟩
theorem eX7_findLeaves_12 : Dc cX7_findLeaves 12 (.iload_n 1) 1 13 := ⟨by decide +kernel, rfl⟩
theorem eX7_findLeaves_13 : Dc cX7_findLeaves 13 (.aload_n 0) 1 14 := ⟨by decide +kernel, rfl⟩
theorem eX7_findLeaves_14 : Dc cX7_findLeaves 14 (.getfield 7) 3 17 := ⟨by decide +kernel, rfl⟩
theorem eX7_findLeaves_17 : Dc cX7_findLeaves 17 (.iload_n 2) 1 18 := ⟨by decide +kernel, rfl⟩
theorem eX7_findLeaves_18 : Dc cX7_findLeaves 18 (.iaload) 1 19 := ⟨by decide +kernel, rfl⟩
theorem eX7_findLeaves_19 : Dc cX7_findLeaves 19 (.aload_n 0) 1 20 := ⟨by decide +kernel, rfl⟩
theorem eX7_findLeaves_20 : Dc cX7_findLeaves 20 (.iload_n 2) 1 21 := ⟨by decide +kernel, rfl⟩
theorem eX7_findLeaves_21 : Dc cX7_findLeaves 21 (.invokevirtual 131) 3 24 := ⟨by decide +kernel, rfl⟩
theorem eX7_findLeaves_24 : Dc cX7_findLeaves 24 (.ifCond .eq 12) 3 27 := ⟨by decide +kernel, rfl⟩
theorem eX7_findLeaves_27 : Dc cX7_findLeaves 27 (.aload_n 0) 1 28 := ⟨by decide +kernel, rfl⟩
theorem eX7_findLeaves_28 : Dc cX7_findLeaves 28 (.getfield 40) 3 31 := ⟨by decide +kernel, rfl⟩
theorem eX7_findLeaves_31 : Dc cX7_findLeaves 31 (.iload_n 2) 1 32 := ⟨by decide +kernel, rfl⟩
theorem eX7_findLeaves_32 : Dc cX7_findLeaves 32 (.iaload) 1 33 := ⟨by decide +kernel, rfl⟩
theorem eX7_findLeaves_33 : Dc cX7_findLeaves 33 (.goto 4) 3 36 := ⟨by decide +kernel, rfl⟩
theorem eX7_findLeaves_36 : Dc cX7_findLeaves 36 (.iconst 0) 1 37 := ⟨by decide +kernel, rfl⟩
theorem eX7_findLeaves_37 : Dc cX7_findLeaves 37 (.iadd) 1 38 := ⟨by decide +kernel, rfl⟩
theorem eX7_findLeaves_38 : Dc cX7_findLeaves 38 (.iadd) 1 39 := ⟨by decide +kernel, rfl⟩
theorem eX7_findLeaves_39 : Dc cX7_findLeaves 39 (.istore_n 1) 1 40 := ⟨by decide +kernel, rfl⟩
theorem eX7_findLeaves_40 : Dc cX7_findLeaves 40 (.aload_n 0) 1 41 := ⟨by decide +kernel, rfl⟩
theorem eX7_findLeaves_41 : Dc cX7_findLeaves 41 (.getfield 43) 3 44 := ⟨by decide +kernel, rfl⟩
theorem eX7_findLeaves_44 : Dc cX7_findLeaves 44 (.iload_n 2) 1 45 := ⟨by decide +kernel, rfl⟩
theorem eX7_findLeaves_45 : Dc cX7_findLeaves 45 (.iload_n 1) 1 46 := ⟨by decide +kernel, rfl⟩
theorem eX7_findLeaves_46 : Dc cX7_findLeaves 46 (.iastore) 1 47 := ⟨by decide +kernel, rfl⟩
theorem eX7_findLeaves_47 : Dc cX7_findLeaves 47 (.iload_n 1) 1 48 := ⟨by decide +kernel, rfl⟩
theorem eX7_findLeaves_48 : Dc cX7_findLeaves 48 (.aload_n 0) 1 49 := ⟨by decide +kernel, rfl⟩
theorem eX7_findLeaves_49 : Dc cX7_findLeaves 49 (.iload_n 2) 1 50 := ⟨by decide +kernel, rfl⟩
theorem eX7_findLeaves_50 : Dc cX7_findLeaves 50 (.invokevirtual 131) 3 53 := ⟨by decide +kernel, rfl⟩
theorem eX7_findLeaves_53 : Dc cX7_findLeaves 53 (.ifCond .ne 12) 3 56 := ⟨by decide +kernel, rfl⟩
theorem eX7_findLeaves_56 : Dc cX7_findLeaves 56 (.aload_n 0) 1 57 := ⟨by decide +kernel, rfl⟩
theorem eX7_findLeaves_57 : Dc cX7_findLeaves 57 (.getfield 7) 3 60 := ⟨by decide +kernel, rfl⟩
theorem eX7_findLeaves_60 : Dc cX7_findLeaves 60 (.iload_n 2) 1 61 := ⟨by decide +kernel, rfl⟩
theorem eX7_findLeaves_61 : Dc cX7_findLeaves 61 (.iaload) 1 62 := ⟨by decide +kernel, rfl⟩
theorem eX7_findLeaves_62 : Dc cX7_findLeaves 62 (.ifCond .ne 7) 3 65 := ⟨by decide +kernel, rfl⟩
theorem eX7_findLeaves_65 : Dc cX7_findLeaves 65 (.iconst 0) 1 66 := ⟨by decide +kernel, rfl⟩
theorem eX7_findLeaves_66 : Dc cX7_findLeaves 66 (.goto 4) 3 69 := ⟨by decide +kernel, rfl⟩
theorem eX7_findLeaves_69 : Dc cX7_findLeaves 69 (.iconst 1) 1 70 := ⟨by decide +kernel, rfl⟩
theorem eX7_findLeaves_70 : Dc cX7_findLeaves 70 (.isub) 1 71 := ⟨by decide +kernel, rfl⟩
theorem eX7_findLeaves_71 : Dc cX7_findLeaves 71 (.istore_n 1) 1 72 := ⟨by decide +kernel, rfl⟩
theorem eX7_findLeaves_72 : Dc cX7_findLeaves 72 (.iinc 2 1) 3 75 := ⟨by decide +kernel, rfl⟩
theorem eX7_findLeaves_75 : Dc cX7_findLeaves 75 (.goto (-71)) 3 78 := ⟨by decide +kernel, rfl⟩
theorem eX7_findLeaves_78 : Dc cX7_findLeaves 78 (.return_) 1 79 := ⟨by decide +kernel, rfl⟩
def fX7_findLeaves_L4   : Nat → Int32 → Int32 → SS → Option (SS)
  | 0, _, _, _ => none
  | n + 1, a1, a2, c => if (c.1 0) ≤ a2 then some c else ald 6 (c.2 1) a2 (fun v2 => jn (fun (x2 : Int32) => ckb 6 a2 (jn (fun (x4 : Int32) => fX7_findLeaves_L4  n ((a1 + (v2 + x2)) - x4) (a2 + (1 : Int32)) (sA c 18 (a2).toNatClampNeg (a1 + (v2 + x2)))) (fun j70 => jn (fun (_ : Unit) => j70 (0 : Int32)) (fun j65 => if (fX7_isOpen (sA c 18 (a2).toNatClampNeg (a1 + (v2 + x2))) a2) = (0 : Int32) then ald 6 (c.2 1) a2 (fun v6 => if v6 = (0 : Int32) then j65 () else j70 (1 : Int32)) else j65 ())))) (fun j37 => if (fX7_isOpen c a2) = (0 : Int32) then j37 (0 : Int32) else ald 6 (c.2 17) a2 (fun v9 => j37 v9)))
def fX7_findLeaves (c : SS)  : Option (SS) := fX7_findLeaves_L4  fu (0 : Int32) (0 : Int32) c
set_option maxRecDepth 20000 in
theorem ctX7_findLeaves_L4 (l : Launch) (G : tg_G) (A : Nat → Nat)   {z : SS}  : ∀ (n : Nat) (a1 : Int32) (a2 : Int32) (c : SS), fX7_findLeaves_L4  n a1 a2 c = some z → V l G (tg_Zm G (fun v w1 => v = none ∧ w1 = wM G A z) 0 0) tg_E0 (tg_R 1 21) "TramGodModel" "findLeaves" cX7_findLeaves 3 none 4 [(0, .ref (A 0)), (1, .int a1), (2, .int a2)] [] (wM G A c) 0 0 := by
  intro n
  induction n with
  | zero => intro a1 a2 c h; exact absurd h (by simp [fX7_findLeaves_L4])
  | succ n ih =>
    intro a1 a2 c h
    unfold fX7_findLeaves_L4 at h
    refine V_iload_n eX7_findLeaves_4 2 rfl ?_
    refine V_aload_n eX7_findLeaves_5 0 rfl ?_
    refine V_get (v := .int (c.1 0)) eX7_findLeaves_6 inX7 0 rfl rfl 0 (Nat.le_of_ble_eq_true rfl) tw_645 rfl ?_
    refine V_icmp_ge (tgt := 78) eX7_findLeaves_9 rfl (fun hb1 => ?_) (fun hb1 => ?_)
    · replace h := (if_pos hb1).symm.trans h
      obtain rfl := Option.some.inj h
      exact V_vret eX7_findLeaves_78 rfl ⟨rfl, rfl⟩
    · replace h := (if_neg hb1).symm.trans h
      refine V_iload_n eX7_findLeaves_12 1 rfl ?_
      refine V_aload_n eX7_findLeaves_13 0 rfl ?_
      refine V_get (v := .ref (A 1)) eX7_findLeaves_14 inX7 0 rfl rfl 1 (Nat.le_of_ble_eq_true rfl) tw_646 rfl ?_
      refine V_iload_n eX7_findLeaves_17 2 rfl ?_
      obtain ⟨v2, hi2, ev2, h⟩ := ald_some h
      refine V_ialdv eX7_findLeaves_18 1 rfl hi2 ev2 ?_
      refine V_aload_n eX7_findLeaves_19 0 rfl ?_
      refine V_iload_n eX7_findLeaves_20 2 rfl ?_
      refine V_callVi (rest := [.int v2, .int a1]) eX7_findLeaves_21 (ctX7_isOpen l G A c a2 rfl) tc_818 tw_815 tw_8 tw_817 ts_24 0 rfl rfl hdX7_isOpen rfl ⟨Nat.le_of_ble_eq_true rfl, Nat.le_of_ble_eq_true rfl⟩ rfl (Nat.le_of_ble_eq_true rfl) ⟨Nat.zero_le _, Nat.zero_le _⟩ ?_
      refine jn_elim h (fun j => ∀ (x2 : Int32), j x2 = some z → V l G (tg_Zm G (fun v w1 => v = none ∧ w1 = wM G A z) 0 0) tg_E0 (tg_R 1 21) "TramGodModel" "findLeaves" cX7_findLeaves 3 none 37 [(0, .ref (A 0)), (2, .int a2)] [.int x2, .int v2, .int a1] (wM G A c) 0 0) ?_ (fun j37 hj37 h => ?_)
      · intro x2 h
        refine V_iadd eX7_findLeaves_37 ?_
        refine V_iadd eX7_findLeaves_38 ?_
        refine V_istore_n (lv' := [(1, .int (a1 + (v2 + x2))), (0, .ref (A 0)), (2, .int a2)]) eX7_findLeaves_39 (Nat.le_of_ble_eq_true rfl) rfl ?_
        refine V_aload_n eX7_findLeaves_40 1 rfl ?_
        refine V_get (v := .ref (A 12)) eX7_findLeaves_41 inX7 0 rfl rfl 18 (Nat.le_of_ble_eq_true rfl) tw_663 rfl ?_
        refine V_iload_n eX7_findLeaves_44 2 rfl ?_
        refine V_iload_n eX7_findLeaves_45 0 rfl ?_
        obtain ⟨hi3, h⟩ := ckb_some h
        refine V_iast (w' := wM G A (sA c 18 (a2).toNatClampNeg (a1 + (v2 + x2)))) eX7_findLeaves_46 12 rfl hi3 rfl ?_
        refine V_iload_n eX7_findLeaves_47 0 rfl ?_
        refine V_aload_n eX7_findLeaves_48 1 rfl ?_
        refine V_iload_n eX7_findLeaves_49 2 rfl ?_
        refine V_callVi (rest := [.int (a1 + (v2 + x2))]) eX7_findLeaves_50 (ctX7_isOpen l G A (sA c 18 (a2).toNatClampNeg (a1 + (v2 + x2))) a2 rfl) tc_818 tw_815 tw_8 tw_817 ts_24 0 rfl rfl hdX7_isOpen rfl ⟨Nat.le_of_ble_eq_true rfl, Nat.le_of_ble_eq_true rfl⟩ rfl (Nat.le_of_ble_eq_true rfl) ⟨Nat.zero_le _, Nat.zero_le _⟩ ?_
        refine jn_elim h (fun j => ∀ (x4 : Int32), j x4 = some z → V l G (tg_Zm G (fun v w1 => v = none ∧ w1 = wM G A z) 0 0) tg_E0 (tg_R 1 21) "TramGodModel" "findLeaves" cX7_findLeaves 3 none 70 [(0, .ref (A 0)), (2, .int a2)] [.int x4, .int (a1 + (v2 + x2))] (wM G A (sA c 18 (a2).toNatClampNeg (a1 + (v2 + x2)))) 0 0) ?_ (fun j70 hj70 h => ?_)
        · intro x4 h
          refine V_isub eX7_findLeaves_70 ?_
          refine V_istore_n (lv' := [(1, .int ((a1 + (v2 + x2)) - x4)), (0, .ref (A 0)), (2, .int a2)]) eX7_findLeaves_71 (Nat.le_of_ble_eq_true rfl) rfl ?_
          refine V_iinc (v := (a2 + (1 : Int32))) (lv' := [(2, .int (a2 + (1 : Int32))), (1, .int ((a1 + (v2 + x2)) - x4)), (0, .ref (A 0))]) eX7_findLeaves_72 2 rfl rfl (Nat.le_of_ble_eq_true rfl) rfl ?_
          refine V_goto (tgt := 4) eX7_findLeaves_75 rfl ?_
          refine V_lv (lv' := [(0, .ref (A 0)), (1, .int ((a1 + (v2 + x2)) - x4)), (2, .int (a2 + (1 : Int32)))]) [2, 1, 0] rfl ?_
          exact ih ((a1 + (v2 + x2)) - x4) (a2 + (1 : Int32)) (sA c 18 (a2).toNatClampNeg (a1 + (v2 + x2))) h
        refine jn_elim h (fun j => j () = some z → V l G (tg_Zm G (fun v w1 => v = none ∧ w1 = wM G A z) 0 0) tg_E0 (tg_R 1 21) "TramGodModel" "findLeaves" cX7_findLeaves 3 none 65 [(0, .ref (A 0)), (2, .int a2)] [.int (a1 + (v2 + x2))] (wM G A (sA c 18 (a2).toNatClampNeg (a1 + (v2 + x2)))) 0 0) ?_ (fun j65 hj65 h => ?_)
        · intro h
          refine V_iconst (v := (0 : Int32)) eX7_findLeaves_65 rfl ?_
          refine V_goto (tgt := 70) eX7_findLeaves_66 rfl ?_
          exact hj70 (0 : Int32) h
        refine V_if_ne (tgt := 65) eX7_findLeaves_53 rfl (fun hb5 => ?_) (fun hb5 => ?_)
        · replace h := (if_neg hb5).symm.trans h
          refine V_lv (lv' := [(0, .ref (A 0)), (2, .int a2)]) [1, 2] rfl ?_
          exact hj65 h
        · replace h := (if_pos hb5).symm.trans h
          refine V_aload_n eX7_findLeaves_56 1 rfl ?_
          refine V_get (v := .ref (A 1)) eX7_findLeaves_57 inX7 0 rfl rfl 1 (Nat.le_of_ble_eq_true rfl) tw_646 rfl ?_
          refine V_iload_n eX7_findLeaves_60 2 rfl ?_
          obtain ⟨v6, hi6, ev6, h⟩ := ald_some h
          refine V_ialdv eX7_findLeaves_61 1 rfl hi6 ev6 ?_
          refine V_if_ne (tgt := 69) eX7_findLeaves_62 rfl (fun hb7 => ?_) (fun hb7 => ?_)
          · replace h := (if_neg hb7).symm.trans h
            refine V_iconst (v := (1 : Int32)) eX7_findLeaves_69 rfl ?_
            refine V_lv (lv' := [(0, .ref (A 0)), (2, .int a2)]) [1, 2] rfl ?_
            exact hj70 (1 : Int32) h
          · replace h := (if_pos hb7).symm.trans h
            refine V_lv (lv' := [(0, .ref (A 0)), (2, .int a2)]) [1, 2] rfl ?_
            exact hj65 h
      refine V_if_eq (tgt := 36) eX7_findLeaves_24 rfl (fun hb8 => ?_) (fun hb8 => ?_)
      · replace h := (if_pos hb8).symm.trans h
        refine V_iconst (v := (0 : Int32)) eX7_findLeaves_36 rfl ?_
        refine V_lv (lv' := [(0, .ref (A 0)), (2, .int a2)]) [0, 2] rfl ?_
        exact hj37 (0 : Int32) h
      · replace h := (if_neg hb8).symm.trans h
        refine V_aload_n eX7_findLeaves_27 0 rfl ?_
        refine V_get (v := .ref (A 11)) eX7_findLeaves_28 inX7 0 rfl rfl 17 (Nat.le_of_ble_eq_true rfl) tw_662 rfl ?_
        refine V_iload_n eX7_findLeaves_31 2 rfl ?_
        obtain ⟨v9, hi9, ev9, h⟩ := ald_some h
        refine V_ialdv eX7_findLeaves_32 11 rfl hi9 ev9 ?_
        refine V_goto (tgt := 37) eX7_findLeaves_33 rfl ?_
        refine V_lv (lv' := [(0, .ref (A 0)), (2, .int a2)]) [0, 2] rfl ?_
        exact hj37 v9 h
set_option maxRecDepth 20000 in
theorem ctX7_findLeaves (l : Launch) (G : tg_G) (A : Nat → Nat) (c : SS)  {z : SS} (h : fX7_findLeaves c  = some z) : Mt l G yX7_findLeaves cX7_findLeaves 3 none (tg_R 1 21) [.ref (A 0)] (wM G A c) (fun v w1 => v = none ∧ w1 = wM G A z) := by
  refine Mt_of2 (own := "TramGodModel") (nm := "findLeaves") rfl rfl rfl (Nat.le_of_ble_eq_true rfl) (lv := [(0, .ref (A 0))]) rfl ?_
  unfold fX7_findLeaves at h
  refine V_iconst (v := (0 : Int32)) eX7_findLeaves_0 rfl ?_
  refine V_istore_n (lv' := [(1, .int (0 : Int32)), (0, .ref (A 0))]) eX7_findLeaves_1 (Nat.le_of_ble_eq_true rfl) rfl ?_
  refine V_iconst (v := (0 : Int32)) eX7_findLeaves_2 rfl ?_
  refine V_istore_n (lv' := [(2, .int (0 : Int32)), (1, .int (0 : Int32)), (0, .ref (A 0))]) eX7_findLeaves_3 (Nat.le_of_ble_eq_true rfl) rfl ?_
  refine V_lv (lv' := [(0, .ref (A 0)), (1, .int (0 : Int32)), (2, .int (0 : Int32))]) [2, 1, 0] rfl ?_
  refine ctX7_findLeaves_L4 l G A fu (0 : Int32) (0 : Int32) c h
theorem hdX7_toldOf : yX7_toldOf.cls ≠ "java/lang/invoke/MethodHandle" ∧ yX7_toldOf.cls ≠ "java/lang/invoke/VarHandle" ∧ (parseMethodDescriptor yX7_toldOf.desc).map (fun d => d.parameters.length) = some 2 := by decide +kernel
theorem eX7_toldOf_0 : Dc cX7_toldOf 0 (.aload_n 0) 1 1 := ⟨by decide +kernel, rfl⟩
theorem eX7_toldOf_1 : Dc cX7_toldOf 1 (.iload_n 1) 1 2 := ⟨by decide +kernel, rfl⟩
theorem eX7_toldOf_2 : Dc cX7_toldOf 2 (.invokevirtual 126) 3 5 := ⟨by decide +kernel, rfl⟩
theorem eX7_toldOf_5 : Dc cX7_toldOf 5 (.ifCond .ne 6) 3 8 := ⟨by decide +kernel, rfl⟩
theorem eX7_toldOf_8 : Dc cX7_toldOf 8 (.bipush (-2)) 2 10 := ⟨by decide +kernel, rfl⟩
theorem eX7_toldOf_10 : Dc cX7_toldOf 10 (.ireturn) 1 11 := ⟨by decide +kernel, rfl⟩
theorem eX7_toldOf_11 : Dc cX7_toldOf 11 (.iload_n 2) 1 12 := ⟨by decide +kernel, rfl⟩
theorem eX7_toldOf_12 : Dc cX7_toldOf 12 (.tableswitch 91 0 5 #[40, 47, 54, 64, 74, 84]) 40 52 := ⟨by decide +kernel, rfl⟩
theorem eX7_toldOf_52 : Dc cX7_toldOf 52 (.aload_n 0) 1 53 := ⟨by decide +kernel, rfl⟩
theorem eX7_toldOf_53 : Dc cX7_toldOf 53 (.getfield 13) 3 56 := ⟨by decide +kernel, rfl⟩
theorem eX7_toldOf_56 : Dc cX7_toldOf 56 (.iload_n 1) 1 57 := ⟨by decide +kernel, rfl⟩
theorem eX7_toldOf_57 : Dc cX7_toldOf 57 (.iaload) 1 58 := ⟨by decide +kernel, rfl⟩
theorem eX7_toldOf_58 : Dc cX7_toldOf 58 (.ireturn) 1 59 := ⟨by decide +kernel, rfl⟩
theorem eX7_toldOf_59 : Dc cX7_toldOf 59 (.aload_n 0) 1 60 := ⟨by decide +kernel, rfl⟩
theorem eX7_toldOf_60 : Dc cX7_toldOf 60 (.getfield 16) 3 63 := ⟨by decide +kernel, rfl⟩
theorem eX7_toldOf_63 : Dc cX7_toldOf 63 (.iload_n 1) 1 64 := ⟨by decide +kernel, rfl⟩
theorem eX7_toldOf_64 : Dc cX7_toldOf 64 (.iaload) 1 65 := ⟨by decide +kernel, rfl⟩
theorem eX7_toldOf_65 : Dc cX7_toldOf 65 (.ireturn) 1 66 := ⟨by decide +kernel, rfl⟩
theorem eX7_toldOf_66 : Dc cX7_toldOf 66 (.aload_n 0) 1 67 := ⟨by decide +kernel, rfl⟩
theorem eX7_toldOf_67 : Dc cX7_toldOf 67 (.getfield 19) 3 70 := ⟨by decide +kernel, rfl⟩
theorem eX7_toldOf_70 : Dc cX7_toldOf 70 (.iload_n 1) 1 71 := ⟨by decide +kernel, rfl⟩
theorem eX7_toldOf_71 : Dc cX7_toldOf 71 (.iaload) 1 72 := ⟨by decide +kernel, rfl⟩
theorem eX7_toldOf_72 : Dc cX7_toldOf 72 (.bipush 10) 2 74 := ⟨by decide +kernel, rfl⟩
theorem eX7_toldOf_74 : Dc cX7_toldOf 74 (.iadd) 1 75 := ⟨by decide +kernel, rfl⟩
theorem eX7_toldOf_75 : Dc cX7_toldOf 75 (.ireturn) 1 76 := ⟨by decide +kernel, rfl⟩
theorem eX7_toldOf_76 : Dc cX7_toldOf 76 (.aload_n 0) 1 77 := ⟨by decide +kernel, rfl⟩
theorem eX7_toldOf_77 : Dc cX7_toldOf 77 (.getfield 22) 3 80 := ⟨by decide +kernel, rfl⟩
theorem eX7_toldOf_80 : Dc cX7_toldOf 80 (.iload_n 1) 1 81 := ⟨by decide +kernel, rfl⟩
theorem eX7_toldOf_81 : Dc cX7_toldOf 81 (.iaload) 1 82 := ⟨by decide +kernel, rfl⟩
theorem eX7_toldOf_82 : Dc cX7_toldOf 82 (.bipush 10) 2 84 := ⟨by decide +kernel, rfl⟩
theorem eX7_toldOf_84 : Dc cX7_toldOf 84 (.iadd) 1 85 := ⟨by decide +kernel, rfl⟩
theorem eX7_toldOf_85 : Dc cX7_toldOf 85 (.ireturn) 1 86 := ⟨by decide +kernel, rfl⟩
theorem eX7_toldOf_86 : Dc cX7_toldOf 86 (.aload_n 0) 1 87 := ⟨by decide +kernel, rfl⟩
theorem eX7_toldOf_87 : Dc cX7_toldOf 87 (.getfield 25) 3 90 := ⟨by decide +kernel, rfl⟩
theorem eX7_toldOf_90 : Dc cX7_toldOf 90 (.iload_n 1) 1 91 := ⟨by decide +kernel, rfl⟩
theorem eX7_toldOf_91 : Dc cX7_toldOf 91 (.iaload) 1 92 := ⟨by decide +kernel, rfl⟩
theorem eX7_toldOf_92 : Dc cX7_toldOf 92 (.bipush 10) 2 94 := ⟨by decide +kernel, rfl⟩
theorem eX7_toldOf_94 : Dc cX7_toldOf 94 (.iadd) 1 95 := ⟨by decide +kernel, rfl⟩
theorem eX7_toldOf_95 : Dc cX7_toldOf 95 (.ireturn) 1 96 := ⟨by decide +kernel, rfl⟩
theorem eX7_toldOf_96 : Dc cX7_toldOf 96 (.aload_n 0) 1 97 := ⟨by decide +kernel, rfl⟩
theorem eX7_toldOf_97 : Dc cX7_toldOf 97 (.getfield 28) 3 100 := ⟨by decide +kernel, rfl⟩
theorem eX7_toldOf_100 : Dc cX7_toldOf 100 (.iload_n 1) 1 101 := ⟨by decide +kernel, rfl⟩
theorem eX7_toldOf_101 : Dc cX7_toldOf 101 (.iaload) 1 102 := ⟨by decide +kernel, rfl⟩
theorem eX7_toldOf_102 : Dc cX7_toldOf 102 (.ireturn) 1 103 := ⟨by decide +kernel, rfl⟩
theorem eX7_toldOf_103 : Dc cX7_toldOf 103 (.bipush (-2)) 2 105 := ⟨by decide +kernel, rfl⟩
theorem eX7_toldOf_105 : Dc cX7_toldOf 105 (.ireturn) 1 106 := ⟨by decide +kernel, rfl⟩
def fX7_toldOf (c : SS) (p1 : Int32) (p2 : Int32) : Option (Int32) := if (fX7_isThere c p1) = (0 : Int32) then some (-2 : Int32) else if p2 = (0 : Int32) then ald 8 (c.2 4) p1 (fun v3 => some v3) else (if p2 = (1 : Int32) then ald 8 (c.2 5) p1 (fun v5 => some v5) else (if p2 = (2 : Int32) then ald 8 (c.2 6) p1 (fun v7 => some (v7 + (10 : Int32))) else (if p2 = (3 : Int32) then ald 8 (c.2 7) p1 (fun v9 => some (v9 + (10 : Int32))) else (if p2 = (4 : Int32) then ald 8 (c.2 8) p1 (fun v11 => some (v11 + (10 : Int32))) else (if p2 = (5 : Int32) then ald 8 (c.2 9) p1 (fun v13 => some v13) else (swo p2 (0 : Int32) (5 : Int32) (some (-2 : Int32))))))))
set_option maxRecDepth 20000 in
theorem ctX7_toldOf (l : Launch) (G : tg_G) (A : Nat → Nat) (c : SS) (p1 : Int32) (p2 : Int32) {z : Int32} (h : fX7_toldOf c p1 p2 = some z) : Mt l G yX7_toldOf cX7_toldOf 3 (some .int) (tg_R 2 46) [.ref (A 0), .int p1, .int p2] (wM G A c) (fun v w1 => v = some (.int z) ∧ w1 = wM G A c) := by
  refine Mt_of2 (own := "TramGodModel") (nm := "toldOf") rfl rfl rfl (Nat.le_of_ble_eq_true rfl) (lv := [(0, .ref (A 0)), (1, .int p1), (2, .int p2)]) rfl ?_
  unfold fX7_toldOf at h
  refine V_aload_n eX7_toldOf_0 0 rfl ?_
  refine V_iload_n eX7_toldOf_1 1 rfl ?_
  refine V_callVi (rest := []) eX7_toldOf_2 (ctX7_isThere l G A c p1 rfl) tc_796 tw_793 tw_8 tw_795 ts_22 0 rfl rfl hdX7_isThere rfl ⟨Nat.le_of_ble_eq_true rfl, Nat.le_of_ble_eq_true rfl⟩ rfl (Nat.le_of_ble_eq_true rfl) ⟨Nat.zero_le _, Nat.zero_le _⟩ ?_
  refine V_if_ne (tgt := 11) eX7_toldOf_5 rfl (fun hb1 => ?_) (fun hb1 => ?_)
  · replace h := (if_neg hb1).symm.trans h
    refine V_iload_n eX7_toldOf_11 2 rfl ?_
    by_cases hs2 : p2 = (0 : Int32)
    · replace h := (if_pos hs2).symm.trans h
      refine V_tin (tgt := 52) (40) eX7_toldOf_12 (by rw [hs2]; decide) (by rw [hs2]; decide) (by rw [hs2]; decide) rfl ?_
      refine V_aload_n eX7_toldOf_52 0 rfl ?_
      refine V_get (v := .ref (A 2)) eX7_toldOf_53 inX7 0 rfl rfl 4 (Nat.le_of_ble_eq_true rfl) tw_649 rfl ?_
      refine V_iload_n eX7_toldOf_56 1 rfl ?_
      obtain ⟨v3, hi3, ev3, h⟩ := ald_some h
      refine V_ialdv eX7_toldOf_57 2 rfl hi3 ev3 ?_
      obtain rfl := Option.some.inj h
      exact V_ret eX7_toldOf_58 rfl ⟨rfl, rfl⟩
    replace h := (if_neg hs2).symm.trans h
    by_cases hs4 : p2 = (1 : Int32)
    · replace h := (if_pos hs4).symm.trans h
      refine V_tin (tgt := 59) (47) eX7_toldOf_12 (by rw [hs4]; decide) (by rw [hs4]; decide) (by rw [hs4]; decide) rfl ?_
      refine V_aload_n eX7_toldOf_59 0 rfl ?_
      refine V_get (v := .ref (A 3)) eX7_toldOf_60 inX7 0 rfl rfl 5 (Nat.le_of_ble_eq_true rfl) tw_650 rfl ?_
      refine V_iload_n eX7_toldOf_63 1 rfl ?_
      obtain ⟨v5, hi5, ev5, h⟩ := ald_some h
      refine V_ialdv eX7_toldOf_64 3 rfl hi5 ev5 ?_
      obtain rfl := Option.some.inj h
      exact V_ret eX7_toldOf_65 rfl ⟨rfl, rfl⟩
    replace h := (if_neg hs4).symm.trans h
    by_cases hs6 : p2 = (2 : Int32)
    · replace h := (if_pos hs6).symm.trans h
      refine V_tin (tgt := 66) (54) eX7_toldOf_12 (by rw [hs6]; decide) (by rw [hs6]; decide) (by rw [hs6]; decide) rfl ?_
      refine V_aload_n eX7_toldOf_66 0 rfl ?_
      refine V_get (v := .ref (A 4)) eX7_toldOf_67 inX7 0 rfl rfl 6 (Nat.le_of_ble_eq_true rfl) tw_651 rfl ?_
      refine V_iload_n eX7_toldOf_70 1 rfl ?_
      obtain ⟨v7, hi7, ev7, h⟩ := ald_some h
      refine V_ialdv eX7_toldOf_71 4 rfl hi7 ev7 ?_
      refine V_bipush (v := (10 : Int32)) eX7_toldOf_72 rfl ?_
      refine V_iadd eX7_toldOf_74 ?_
      obtain rfl := Option.some.inj h
      exact V_ret eX7_toldOf_75 rfl ⟨rfl, rfl⟩
    replace h := (if_neg hs6).symm.trans h
    by_cases hs8 : p2 = (3 : Int32)
    · replace h := (if_pos hs8).symm.trans h
      refine V_tin (tgt := 76) (64) eX7_toldOf_12 (by rw [hs8]; decide) (by rw [hs8]; decide) (by rw [hs8]; decide) rfl ?_
      refine V_aload_n eX7_toldOf_76 0 rfl ?_
      refine V_get (v := .ref (A 5)) eX7_toldOf_77 inX7 0 rfl rfl 7 (Nat.le_of_ble_eq_true rfl) tw_652 rfl ?_
      refine V_iload_n eX7_toldOf_80 1 rfl ?_
      obtain ⟨v9, hi9, ev9, h⟩ := ald_some h
      refine V_ialdv eX7_toldOf_81 5 rfl hi9 ev9 ?_
      refine V_bipush (v := (10 : Int32)) eX7_toldOf_82 rfl ?_
      refine V_iadd eX7_toldOf_84 ?_
      obtain rfl := Option.some.inj h
      exact V_ret eX7_toldOf_85 rfl ⟨rfl, rfl⟩
    replace h := (if_neg hs8).symm.trans h
    by_cases hs10 : p2 = (4 : Int32)
    · replace h := (if_pos hs10).symm.trans h
      refine V_tin (tgt := 86) (74) eX7_toldOf_12 (by rw [hs10]; decide) (by rw [hs10]; decide) (by rw [hs10]; decide) rfl ?_
      refine V_aload_n eX7_toldOf_86 0 rfl ?_
      refine V_get (v := .ref (A 6)) eX7_toldOf_87 inX7 0 rfl rfl 8 (Nat.le_of_ble_eq_true rfl) tw_653 rfl ?_
      refine V_iload_n eX7_toldOf_90 1 rfl ?_
      obtain ⟨v11, hi11, ev11, h⟩ := ald_some h
      refine V_ialdv eX7_toldOf_91 6 rfl hi11 ev11 ?_
      refine V_bipush (v := (10 : Int32)) eX7_toldOf_92 rfl ?_
      refine V_iadd eX7_toldOf_94 ?_
      obtain rfl := Option.some.inj h
      exact V_ret eX7_toldOf_95 rfl ⟨rfl, rfl⟩
    replace h := (if_neg hs10).symm.trans h
    by_cases hs12 : p2 = (5 : Int32)
    · replace h := (if_pos hs12).symm.trans h
      refine V_tin (tgt := 96) (84) eX7_toldOf_12 (by rw [hs12]; decide) (by rw [hs12]; decide) (by rw [hs12]; decide) rfl ?_
      refine V_aload_n eX7_toldOf_96 0 rfl ?_
      refine V_get (v := .ref (A 7)) eX7_toldOf_97 inX7 0 rfl rfl 9 (Nat.le_of_ble_eq_true rfl) tw_654 rfl ?_
      refine V_iload_n eX7_toldOf_100 1 rfl ?_
      obtain ⟨v13, hi13, ev13, h⟩ := ald_some h
      refine V_ialdv eX7_toldOf_101 7 rfl hi13 ev13 ?_
      obtain rfl := Option.some.inj h
      exact V_ret eX7_toldOf_102 rfl ⟨rfl, rfl⟩
    replace h := (if_neg hs12).symm.trans h
    obtain ⟨hs14, h⟩ := swo_some h
    refine V_tout (tgt := 103) eX7_toldOf_12 hs14 rfl ?_
    refine V_bipush (v := (-2 : Int32)) eX7_toldOf_103 rfl ?_
    obtain rfl := Option.some.inj h
    exact V_ret eX7_toldOf_105 rfl ⟨rfl, rfl⟩
  · replace h := (if_pos hb1).symm.trans h
    refine V_bipush (v := (-2 : Int32)) eX7_toldOf_8 rfl ?_
    obtain rfl := Option.some.inj h
    exact V_ret eX7_toldOf_10 rfl ⟨rfl, rfl⟩
theorem hdX7_told : yX7_told.cls ≠ "java/lang/invoke/MethodHandle" ∧ yX7_told.cls ≠ "java/lang/invoke/VarHandle" ∧ (parseMethodDescriptor yX7_told.desc).map (fun d => d.parameters.length) = some 1 := by decide +kernel
theorem eX7_told_0 : Dc cX7_told 0 (.iload_n 1) 1 1 := ⟨by decide +kernel, rfl⟩
theorem eX7_told_1 : Dc cX7_told 1 (.i2l) 1 2 := ⟨by decide +kernel, rfl⟩
theorem eX7_told_2 : Dc cX7_told 2 (.ldc2_w 229) 3 5 := ⟨by decide +kernel, rfl⟩
theorem eX7_told_5 : Dc cX7_told 5 (.ldc2_w 117) 3 8 := ⟨by decide +kernel, rfl⟩
theorem eX7_told_8 : Dc cX7_told 8 (.invokestatic 79) 3 11 := ⟨by decide +kernel, rfl⟩
theorem eX7_told_11 : Dc cX7_told 11 (.ifCond .eq 18) 3 14 := ⟨by decide +kernel, rfl⟩
theorem eX7_told_14 : Dc cX7_told 14 (.aload_n 0) 1 15 := ⟨by decide +kernel, rfl⟩
theorem eX7_told_15 : Dc cX7_told 15 (.iload_n 1) 1 16 := ⟨by decide +kernel, rfl⟩
theorem eX7_told_16 : Dc cX7_told 16 (.bipush 10) 2 18 := ⟨by decide +kernel, rfl⟩
theorem eX7_told_18 : Dc cX7_told 18 (.idiv) 1 19 := ⟨by decide +kernel, rfl⟩
theorem eX7_told_19 : Dc cX7_told 19 (.iconst 2) 1 20 := ⟨by decide +kernel, rfl⟩
theorem eX7_told_20 : Dc cX7_told 20 (.isub) 1 21 := ⟨by decide +kernel, rfl⟩
theorem eX7_told_21 : Dc cX7_told 21 (.iload_n 1) 1 22 := ⟨by decide +kernel, rfl⟩
theorem eX7_told_22 : Dc cX7_told 22 (.bipush 10) 2 24 := ⟨by decide +kernel, rfl⟩
theorem eX7_told_24 : Dc cX7_told 24 (.irem) 1 25 := ⟨by decide +kernel, rfl⟩
theorem eX7_told_25 : Dc cX7_told 25 (.invokevirtual 274) 3 28 := ⟨by decide +kernel, rfl⟩
theorem eX7_told_28 : Dc cX7_told 28 (.ireturn) 1 29 := ⟨by decide +kernel, rfl⟩
theorem eX7_told_29 : Dc cX7_told 29 (.iload_n 1) 1 30 := ⟨by decide +kernel, rfl⟩
theorem eX7_told_30 : Dc cX7_told 30 (.i2l) 1 31 := ⟨by decide +kernel, rfl⟩
theorem eX7_told_31 : Dc cX7_told 31 (.ldc2_w 231) 3 34 := ⟨by decide +kernel, rfl⟩
theorem eX7_told_34 : Dc cX7_told 34 (.ldc2_w 115) 3 37 := ⟨by decide +kernel, rfl⟩
theorem eX7_told_37 : Dc cX7_told 37 (.aload_n 0) 1 38 := ⟨by decide +kernel, rfl⟩
theorem eX7_told_38 : Dc cX7_told 38 (.getfield 69) 3 41 := ⟨by decide +kernel, rfl⟩
theorem eX7_told_41 : Dc cX7_told 41 (.i2l) 1 42 := ⟨by decide +kernel, rfl⟩
theorem eX7_told_42 : Dc cX7_told 42 (.ladd) 1 43 := ⟨by decide +kernel, rfl⟩
theorem eX7_told_43 : Dc cX7_told 43 (.invokestatic 79) 3 46 := ⟨by decide +kernel, rfl⟩
theorem eX7_told_46 : Dc cX7_told 46 (.ifCond .eq 13) 3 49 := ⟨by decide +kernel, rfl⟩
theorem eX7_told_49 : Dc cX7_told 49 (.aload_n 0) 1 50 := ⟨by decide +kernel, rfl⟩
theorem eX7_told_50 : Dc cX7_told 50 (.getfield 7) 3 53 := ⟨by decide +kernel, rfl⟩
theorem eX7_told_53 : Dc cX7_told 53 (.iload_n 1) 1 54 := ⟨by decide +kernel, rfl⟩
theorem eX7_told_54 : Dc cX7_told 54 (.bipush 10) 2 56 := ⟨by decide +kernel, rfl⟩
theorem eX7_told_56 : Dc cX7_told 56 (.isub) 1 57 := ⟨by decide +kernel, rfl⟩
theorem eX7_told_57 : Dc cX7_told 57 (.iaload) 1 58 := ⟨by decide +kernel, rfl⟩
theorem eX7_told_58 : Dc cX7_told 58 (.ireturn) 1 59 := ⟨by decide +kernel, rfl⟩
theorem eX7_told_59 : Dc cX7_told 59 (.iload_n 1) 1 60 := ⟨by decide +kernel, rfl⟩
theorem eX7_told_60 : Dc cX7_told 60 (.tableswitch 79 0 6 #[44, 49, 54, 59, 64, 69, 74]) 44 104 := ⟨by decide +kernel, rfl⟩
theorem eX7_told_104 : Dc cX7_told 104 (.aload_n 0) 1 105 := ⟨by decide +kernel, rfl⟩
theorem eX7_told_105 : Dc cX7_told 105 (.getfield 95) 3 108 := ⟨by decide +kernel, rfl⟩
theorem eX7_told_108 : Dc cX7_told 108 (.ireturn) 1 109 := ⟨by decide +kernel, rfl⟩
theorem eX7_told_109 : Dc cX7_told 109 (.aload_n 0) 1 110 := ⟨by decide +kernel, rfl⟩
theorem eX7_told_110 : Dc cX7_told 110 (.getfield 69) 3 113 := ⟨by decide +kernel, rfl⟩
theorem eX7_told_113 : Dc cX7_told 113 (.ireturn) 1 114 := ⟨by decide +kernel, rfl⟩
theorem eX7_told_114 : Dc cX7_told 114 (.aload_n 0) 1 115 := ⟨by decide +kernel, rfl⟩
theorem eX7_told_115 : Dc cX7_told 115 (.getfield 83) 3 118 := ⟨by decide +kernel, rfl⟩
theorem eX7_told_118 : Dc cX7_told 118 (.ireturn) 1 119 := ⟨by decide +kernel, rfl⟩
theorem eX7_told_119 : Dc cX7_told 119 (.aload_n 0) 1 120 := ⟨by decide +kernel, rfl⟩
theorem eX7_told_120 : Dc cX7_told 120 (.getfield 88) 3 123 := ⟨by decide +kernel, rfl⟩
theorem eX7_told_123 : Dc cX7_told 123 (.ireturn) 1 124 := ⟨by decide +kernel, rfl⟩
theorem eX7_told_124 : Dc cX7_told 124 (.aload_n 0) 1 125 := ⟨by decide +kernel, rfl⟩
theorem eX7_told_125 : Dc cX7_told 125 (.getfield 73) 3 128 := ⟨by decide +kernel, rfl⟩
theorem eX7_told_128 : Dc cX7_told 128 (.ireturn) 1 129 := ⟨by decide +kernel, rfl⟩
theorem eX7_told_129 : Dc cX7_told 129 (.aload_n 0) 1 130 := ⟨by decide +kernel, rfl⟩
theorem eX7_told_130 : Dc cX7_told 130 (.getfield 76) 3 133 := ⟨by decide +kernel, rfl⟩
theorem eX7_told_133 : Dc cX7_told 133 (.ireturn) 1 134 := ⟨by decide +kernel, rfl⟩
theorem eX7_told_134 : Dc cX7_told 134 (.aload_n 0) 1 135 := ⟨by decide +kernel, rfl⟩
theorem eX7_told_135 : Dc cX7_told 135 (.getfield 106) 3 138 := ⟨by decide +kernel, rfl⟩
theorem eX7_told_138 : Dc cX7_told 138 (.ireturn) 1 139 := ⟨by decide +kernel, rfl⟩
theorem eX7_told_139 : Dc cX7_told 139 (.bipush (-2)) 2 141 := ⟨by decide +kernel, rfl⟩
theorem eX7_told_141 : Dc cX7_told 141 (.ireturn) 1 142 := ⟨by decide +kernel, rfl⟩
def fX7_told (c : SS) (p1 : Int32) : Option (Int32) := if (fX7_in (p1).toInt64 (20 : Int64) (99 : Int64)) = (0 : Int32) then if (fX7_in (p1).toInt64 (10 : Int64) ((9 : Int64) + ((c.1 0)).toInt64)) = (0 : Int32) then if p1 = (0 : Int32) then some (c.1 16) else (if p1 = (1 : Int32) then some (c.1 0) else (if p1 = (2 : Int32) then some (c.1 2) else (if p1 = (3 : Int32) then some (c.1 3) else (if p1 = (4 : Int32) then some (c.1 10) else (if p1 = (5 : Int32) then some (c.1 11) else (if p1 = (6 : Int32) then some (c.1 14) else (swo p1 (0 : Int32) (6 : Int32) (some (-2 : Int32))))))))) else ald 6 (c.2 1) (p1 - (10 : Int32)) (fun v11 => some v11) else Option.bind (fX7_toldOf c ((p1 / (10 : Int32)) - (2 : Int32)) (irm p1 (10 : Int32))) (fun q15 => some q15)
set_option maxRecDepth 20000 in
theorem ctX7_told (l : Launch) (G : tg_G) (A : Nat → Nat) (c : SS) (p1 : Int32) {z : Int32} (h : fX7_told c p1 = some z) : Mt l G yX7_told cX7_told 2 (some .int) (tg_R 3 68) [.ref (A 0), .int p1] (wM G A c) (fun v w1 => v = some (.int z) ∧ w1 = wM G A c) := by
  refine Mt_of2 (own := "TramGodModel") (nm := "told") rfl rfl rfl (Nat.le_of_ble_eq_true rfl) (lv := [(0, .ref (A 0)), (1, .int p1)]) rfl ?_
  unfold fX7_told at h
  refine V_iload_n eX7_told_0 1 rfl ?_
  refine V_i2l eX7_told_1 ?_
  refine V_ldc2 eX7_told_2 tw_973 ?_
  refine V_ldc2 eX7_told_5 tw_780 ?_
  refine V_callSi (rest := []) eX7_told_8 (ctX7_in l G _ (p1).toInt64 (20 : Int64) (99 : Int64) rfl) tc_748 tw_746 tw_8 tw_747 hdX7_in rfl ⟨Nat.le_of_ble_eq_true rfl, Nat.le_of_ble_eq_true rfl⟩ rfl (Nat.le_of_ble_eq_true rfl) ⟨Nat.zero_le _, Nat.zero_le _⟩ ?_
  refine V_if_eq (tgt := 29) eX7_told_11 rfl (fun hb1 => ?_) (fun hb1 => ?_)
  · replace h := (if_pos hb1).symm.trans h
    refine V_iload_n eX7_told_29 1 rfl ?_
    refine V_i2l eX7_told_30 ?_
    refine V_ldc2 eX7_told_31 tw_974 ?_
    refine V_ldc2 eX7_told_34 tw_785 ?_
    refine V_aload_n eX7_told_37 0 rfl ?_
    refine V_get (v := .int (c.1 0)) eX7_told_38 inX7 0 rfl rfl 0 (Nat.le_of_ble_eq_true rfl) tw_645 rfl ?_
    refine V_i2l eX7_told_41 ?_
    refine V_ladd eX7_told_42 ?_
    refine V_callSi (rest := []) eX7_told_43 (ctX7_in l G _ (p1).toInt64 (10 : Int64) ((9 : Int64) + ((c.1 0)).toInt64) rfl) tc_748 tw_746 tw_8 tw_747 hdX7_in rfl ⟨Nat.le_of_ble_eq_true rfl, Nat.le_of_ble_eq_true rfl⟩ rfl (Nat.le_of_ble_eq_true rfl) ⟨Nat.zero_le _, Nat.zero_le _⟩ ?_
    refine V_if_eq (tgt := 59) eX7_told_46 rfl (fun hb2 => ?_) (fun hb2 => ?_)
    · replace h := (if_pos hb2).symm.trans h
      refine V_iload_n eX7_told_59 1 rfl ?_
      by_cases hs3 : p1 = (0 : Int32)
      · replace h := (if_pos hs3).symm.trans h
        refine V_tin (tgt := 104) (44) eX7_told_60 (by rw [hs3]; decide) (by rw [hs3]; decide) (by rw [hs3]; decide) rfl ?_
        refine V_aload_n eX7_told_104 0 rfl ?_
        refine V_get (v := .int (c.1 16)) eX7_told_105 inX7 0 rfl rfl 16 (Nat.le_of_ble_eq_true rfl) tw_661 rfl ?_
        obtain rfl := Option.some.inj h
        exact V_ret eX7_told_108 rfl ⟨rfl, rfl⟩
      replace h := (if_neg hs3).symm.trans h
      by_cases hs4 : p1 = (1 : Int32)
      · replace h := (if_pos hs4).symm.trans h
        refine V_tin (tgt := 109) (49) eX7_told_60 (by rw [hs4]; decide) (by rw [hs4]; decide) (by rw [hs4]; decide) rfl ?_
        refine V_aload_n eX7_told_109 0 rfl ?_
        refine V_get (v := .int (c.1 0)) eX7_told_110 inX7 0 rfl rfl 0 (Nat.le_of_ble_eq_true rfl) tw_645 rfl ?_
        obtain rfl := Option.some.inj h
        exact V_ret eX7_told_113 rfl ⟨rfl, rfl⟩
      replace h := (if_neg hs4).symm.trans h
      by_cases hs5 : p1 = (2 : Int32)
      · replace h := (if_pos hs5).symm.trans h
        refine V_tin (tgt := 114) (54) eX7_told_60 (by rw [hs5]; decide) (by rw [hs5]; decide) (by rw [hs5]; decide) rfl ?_
        refine V_aload_n eX7_told_114 0 rfl ?_
        refine V_get (v := .int (c.1 2)) eX7_told_115 inX7 0 rfl rfl 2 (Nat.le_of_ble_eq_true rfl) tw_647 rfl ?_
        obtain rfl := Option.some.inj h
        exact V_ret eX7_told_118 rfl ⟨rfl, rfl⟩
      replace h := (if_neg hs5).symm.trans h
      by_cases hs6 : p1 = (3 : Int32)
      · replace h := (if_pos hs6).symm.trans h
        refine V_tin (tgt := 119) (59) eX7_told_60 (by rw [hs6]; decide) (by rw [hs6]; decide) (by rw [hs6]; decide) rfl ?_
        refine V_aload_n eX7_told_119 0 rfl ?_
        refine V_get (v := .int (c.1 3)) eX7_told_120 inX7 0 rfl rfl 3 (Nat.le_of_ble_eq_true rfl) tw_648 rfl ?_
        obtain rfl := Option.some.inj h
        exact V_ret eX7_told_123 rfl ⟨rfl, rfl⟩
      replace h := (if_neg hs6).symm.trans h
      by_cases hs7 : p1 = (4 : Int32)
      · replace h := (if_pos hs7).symm.trans h
        refine V_tin (tgt := 124) (64) eX7_told_60 (by rw [hs7]; decide) (by rw [hs7]; decide) (by rw [hs7]; decide) rfl ?_
        refine V_aload_n eX7_told_124 0 rfl ?_
        refine V_get (v := .int (c.1 10)) eX7_told_125 inX7 0 rfl rfl 10 (Nat.le_of_ble_eq_true rfl) tw_655 rfl ?_
        obtain rfl := Option.some.inj h
        exact V_ret eX7_told_128 rfl ⟨rfl, rfl⟩
      replace h := (if_neg hs7).symm.trans h
      by_cases hs8 : p1 = (5 : Int32)
      · replace h := (if_pos hs8).symm.trans h
        refine V_tin (tgt := 129) (69) eX7_told_60 (by rw [hs8]; decide) (by rw [hs8]; decide) (by rw [hs8]; decide) rfl ?_
        refine V_aload_n eX7_told_129 0 rfl ?_
        refine V_get (v := .int (c.1 11)) eX7_told_130 inX7 0 rfl rfl 11 (Nat.le_of_ble_eq_true rfl) tw_656 rfl ?_
        obtain rfl := Option.some.inj h
        exact V_ret eX7_told_133 rfl ⟨rfl, rfl⟩
      replace h := (if_neg hs8).symm.trans h
      by_cases hs9 : p1 = (6 : Int32)
      · replace h := (if_pos hs9).symm.trans h
        refine V_tin (tgt := 134) (74) eX7_told_60 (by rw [hs9]; decide) (by rw [hs9]; decide) (by rw [hs9]; decide) rfl ?_
        refine V_aload_n eX7_told_134 0 rfl ?_
        refine V_get (v := .int (c.1 14)) eX7_told_135 inX7 0 rfl rfl 14 (Nat.le_of_ble_eq_true rfl) tw_659 rfl ?_
        obtain rfl := Option.some.inj h
        exact V_ret eX7_told_138 rfl ⟨rfl, rfl⟩
      replace h := (if_neg hs9).symm.trans h
      obtain ⟨hs10, h⟩ := swo_some h
      refine V_tout (tgt := 139) eX7_told_60 hs10 rfl ?_
      refine V_bipush (v := (-2 : Int32)) eX7_told_139 rfl ?_
      obtain rfl := Option.some.inj h
      exact V_ret eX7_told_141 rfl ⟨rfl, rfl⟩
    · replace h := (if_neg hb2).symm.trans h
      refine V_aload_n eX7_told_49 0 rfl ?_
      refine V_get (v := .ref (A 1)) eX7_told_50 inX7 0 rfl rfl 1 (Nat.le_of_ble_eq_true rfl) tw_646 rfl ?_
      refine V_iload_n eX7_told_53 1 rfl ?_
      refine V_bipush (v := (10 : Int32)) eX7_told_54 rfl ?_
      refine V_isub eX7_told_56 ?_
      obtain ⟨v11, hi11, ev11, h⟩ := ald_some h
      refine V_ialdv eX7_told_57 1 rfl hi11 ev11 ?_
      obtain rfl := Option.some.inj h
      exact V_ret eX7_told_58 rfl ⟨rfl, rfl⟩
  · replace h := (if_neg hb1).symm.trans h
    refine V_aload_n eX7_told_14 0 rfl ?_
    refine V_iload_n eX7_told_15 1 rfl ?_
    refine V_bipush (v := (10 : Int32)) eX7_told_16 rfl ?_
    refine V_idiv eX7_told_18 (by decide) ?_
    refine V_iconst (v := (2 : Int32)) eX7_told_19 rfl ?_
    refine V_isub eX7_told_20 ?_
    refine V_iload_n eX7_told_21 1 rfl ?_
    refine V_bipush (v := (10 : Int32)) eX7_told_22 rfl ?_
    refine V_irem eX7_told_24 (by decide) ?_
    obtain ⟨q15, hc15, h⟩ := Option.bind_eq_some_iff.mp h
    refine V_callVi (rest := []) eX7_told_25 (ctX7_toldOf l G A c ((p1 / (10 : Int32)) - (2 : Int32)) (irm p1 (10 : Int32)) hc15) tc_1025 tw_1022 tw_8 tw_1024 ts_48 0 rfl rfl hdX7_toldOf rfl ⟨Nat.le_of_ble_eq_true rfl, Nat.le_of_ble_eq_true rfl⟩ rfl (Nat.le_of_ble_eq_true rfl) ⟨Nat.zero_le _, Nat.zero_le _⟩ ?_
    obtain rfl := Option.some.inj h
    exact V_ret eX7_told_28 rfl ⟨rfl, rfl⟩
