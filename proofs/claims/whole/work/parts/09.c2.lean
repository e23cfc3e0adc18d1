theorem hdX6_riders : yX6_riders.cls ≠ "java/lang/invoke/MethodHandle" ∧ yX6_riders.cls ≠ "java/lang/invoke/VarHandle" ∧ (parseMethodDescriptor yX6_riders.desc).map (fun d => d.parameters.length) = some 0 := by decide +kernel
theorem eX6_riders_0 : Dc cX6_riders 0 (.aload_n 0) 1 1 := ⟨by decide +kernel, rfl⟩
theorem eX6_riders_1 : Dc cX6_riders 1 (.invokevirtual 147) 3 4 := ⟨by decide +kernel, rfl⟩
theorem eX6_riders_4 : Dc cX6_riders 4 (.ifCond .eq 17) 3 7 := ⟨by decide +kernel, rfl⟩
theorem eX6_riders_7 : Dc cX6_riders 7 (.aload_n 0) 1 8 := ⟨by decide +kernel, rfl⟩
theorem eX6_riders_8 : Dc cX6_riders 8 (.getfield 32) 3 11 := ⟨by decide +kernel, rfl⟩
theorem eX6_riders_11 : Dc cX6_riders 11 (.aload_n 0) 1 12 := ⟨by decide +kernel, rfl⟩
theorem eX6_riders_12 : Dc cX6_riders 12 (.getfield 65) 3 15 := ⟨by decide +kernel, rfl⟩
theorem eX6_riders_15 : Dc cX6_riders 15 (.invokevirtual 150) 3 18 := ⟨by decide +kernel, rfl⟩
theorem eX6_riders_18 : Dc cX6_riders 18 (.goto 5) 3 21 := ⟨by decide +kernel, rfl⟩
theorem eX6_riders_21 : Dc cX6_riders 21 (.bipush (-5)) 2 23 := ⟨by decide +kernel, rfl⟩
theorem eX6_riders_23 : Dc cX6_riders 23 (.ireturn) 1 24 := ⟨by decide +kernel, rfl⟩
def fX6_riders (c : SS)  : Option (Int32 × SS) := Option.bind (fX6_readGoodHold c) (fun q1 => if q1.1 = (0 : Int32) then some ((-5 : Int32), q1.2) else Option.bind (fX4_ridersBy_27 q1.2) (fun q3 => some (q3, q1.2)))
set_option maxRecDepth 20000 in
theorem ctX6_riders (l : Launch) (G : tg_G) (A : Nat → Nat) (c : SS)  {z : Int32 × SS} (h : fX6_riders c  = some z) : Mt l G yX6_riders cX6_riders 1 (some .int) (tg_R 4 87) [.ref (A 0)] (wC G A c) (fun v w1 => v = some (.int z.1) ∧ w1 = wC G A z.2) := by
  refine Mt_of2 (own := "TramGod") (nm := "riders") rfl rfl rfl (Nat.le_of_ble_eq_true rfl) (lv := [(0, .ref (A 0))]) rfl ?_
  unfold fX6_riders at h
  refine V_aload_n eX6_riders_0 0 rfl ?_
  obtain ⟨q1, hc1, h⟩ := Option.bind_eq_some_iff.mp h
  refine V_callVi (rest := []) eX6_riders_1 (ctX6_readGoodHold l G A c hc1) tc_348 tw_345 tw_1 tw_347 ts_3 0 rfl rfl hdX6_readGoodHold rfl ⟨Nat.le_of_ble_eq_true rfl, Nat.le_of_ble_eq_true rfl⟩ rfl (Nat.le_of_ble_eq_true rfl) ⟨Nat.zero_le _, Nat.zero_le _⟩ ?_
  refine V_if_eq (tgt := 21) eX6_riders_4 rfl (fun hb2 => ?_) (fun hb2 => ?_)
  · replace h := (if_pos hb2).symm.trans h
    refine V_bipush (v := (-5 : Int32)) eX6_riders_21 rfl ?_
    obtain rfl := Option.some.inj h
    exact V_ret eX6_riders_23 rfl ⟨rfl, rfl⟩
  · replace h := (if_neg hb2).symm.trans h
    refine V_aload_n eX6_riders_7 0 rfl ?_
    refine V_get (v := .ref (A 11)) eX6_riders_8 inX6 0 rfl rfl 3 (Nat.le_of_ble_eq_true rfl) tw_210 rfl ?_
    refine V_aload_n eX6_riders_11 0 rfl ?_
    refine V_get (v := .ref (A 27)) eX6_riders_12 inX6 0 rfl rfl 8 (Nat.le_of_ble_eq_true rfl) tw_215 rfl ?_
    obtain ⟨q3, hc3, h⟩ := Option.bind_eq_some_iff.mp h
    refine V_callVi (rest := []) eX6_riders_15 (ctX4_ridersBy_27 l G A q1.2 hc3) tc_365 tw_362 tw_4 tw_363 tw_364 11 rfl rfl hdX4_ridersBy rfl ⟨Nat.le_of_ble_eq_true rfl, Nat.le_of_ble_eq_true rfl⟩ rfl (Nat.le_of_ble_eq_true rfl) ⟨Nat.zero_le _, Nat.zero_le _⟩ ?_
    refine V_goto (tgt := 23) eX6_riders_18 rfl ?_
    obtain rfl := Option.some.inj h
    exact V_ret eX6_riders_23 rfl ⟨rfl, rfl⟩
theorem hdX5_othersOf : yX5_othersOf.cls ≠ "java/lang/invoke/MethodHandle" ∧ yX5_othersOf.cls ≠ "java/lang/invoke/VarHandle" ∧ (parseMethodDescriptor yX5_othersOf.desc).map (fun d => d.parameters.length) = some 1 := by decide +kernel
theorem eX5_othersOf_0 : Dc cX5_othersOf 0 (.iconst 0) 1 1 := ⟨by decide +kernel, rfl⟩
theorem eX5_othersOf_1 : Dc cX5_othersOf 1 (.istore_n 2) 1 2 := ⟨by decide +kernel, rfl⟩
theorem eX5_othersOf_2 : Dc cX5_othersOf 2 (.iconst 0) 1 3 := ⟨by decide +kernel, rfl⟩
theorem eX5_othersOf_3 : Dc cX5_othersOf 3 (.istore_n 3) 1 4 := ⟨by decide +kernel, rfl⟩
theorem eX5_othersOf_4 : Dc cX5_othersOf 4 (.iload_n 3) 1 5 := ⟨by decide +kernel, rfl⟩
theorem eX5_othersOf_5 : Dc cX5_othersOf 5 (.bipush 8) 2 7 := ⟨by decide +kernel, rfl⟩
theorem eX5_othersOf_7 : Dc cX5_othersOf 7 (.if_icmp .ge 27) 3 10 := ⟨by decide +kernel, rfl⟩
theorem eX5_othersOf_10 : Dc cX5_othersOf 10 (.iload_n 1) 1 11 := ⟨by decide +kernel, rfl⟩
theorem eX5_othersOf_11 : Dc cX5_othersOf 11 (.iload_n 3) 1 12 := ⟨by decide +kernel, rfl⟩
theorem eX5_othersOf_12 : Dc cX5_othersOf 12 (.ishr) 1 13 := ⟨by decide +kernel, rfl⟩
theorem eX5_othersOf_13 : Dc cX5_othersOf 13 (.iconst 1) 1 14 := ⟨by decide +kernel, rfl⟩
theorem eX5_othersOf_14 : Dc cX5_othersOf 14 (.iand) 1 15 := ⟨by decide +kernel, rfl⟩
theorem eX5_othersOf_15 : Dc cX5_othersOf 15 (.iconst 1) 1 16 := ⟨by decide +kernel, rfl⟩
theorem eX5_othersOf_16 : Dc cX5_othersOf 16 (.if_icmp .ne 12) 3 19 := ⟨by decide +kernel, rfl⟩
theorem eX5_othersOf_19 : Dc cX5_othersOf 19 (.iload_n 2) 1 20 := ⟨by decide +kernel, rfl⟩
theorem eX5_othersOf_20 : Dc cX5_othersOf 20 (.aload_n 0) 1 21 := ⟨by decide +kernel, rfl⟩
theorem eX5_othersOf_21 : Dc cX5_othersOf 21 (.getfield 37) 3 24 := ⟨by decide +kernel, rfl⟩
theorem eX5_othersOf_24 : Dc cX5_othersOf 24 (.iload_n 3) 1 25 := ⟨by decide +kernel, rfl⟩
theorem eX5_othersOf_25 : Dc cX5_othersOf 25 (.iaload) 1 26 := ⟨by decide +kernel, rfl⟩
theorem eX5_othersOf_26 : Dc cX5_othersOf 26 (.iadd) 1 27 := ⟨by decide +kernel, rfl⟩
theorem eX5_othersOf_27 : Dc cX5_othersOf 27 (.istore_n 2) 1 28 := ⟨by decide +kernel, rfl⟩
theorem eX5_othersOf_28 : Dc cX5_othersOf 28 (.iinc 3 1) 3 31 := ⟨by decide +kernel, rfl⟩
theorem eX5_othersOf_31 : Dc cX5_othersOf 31 (.goto (-27)) 3 34 := ⟨by decide +kernel, rfl⟩
theorem eX5_othersOf_34 : Dc cX5_othersOf 34 (.iload_n 2) 1 35 := ⟨by decide +kernel, rfl⟩
theorem eX5_othersOf_35 : Dc cX5_othersOf 35 (.ireturn) 1 36 := ⟨by decide +kernel, rfl⟩
def fX5_othersOf_L4  (c : SS) (a1 : Int32) : Nat → Int32 → Int32 → Option (Int32)
  | 0, _, _ => none
  | n + 1, a2, a3 => if (8 : Int32) ≤ a3 then some a2 else jn (fun (x2 : Int32) => fX5_othersOf_L4 c a1 n x2 (a3 + (1 : Int32))) (fun j28 => if ((a1 >>> (a3 &&& 31)) &&& (1 : Int32)) = (1 : Int32) then ald 8 (c.2 6) a3 (fun v4 => j28 (a2 + v4)) else j28 a2)
def fX5_othersOf (c : SS) (p1 : Int32) : Option (Int32) := fX5_othersOf_L4 c p1 fu (0 : Int32) (0 : Int32)
set_option maxRecDepth 20000 in
theorem ctX5_othersOf_L4 (l : Launch) (G : tg_G) (A : Nat → Nat)  (c : SS) (a1 : Int32) {z : Int32}  : ∀ (n : Nat) (a2 : Int32) (a3 : Int32), fX5_othersOf_L4 c a1 n a2 a3 = some z → V l G (tg_Zm G (fun v w1 => v = some (.int z) ∧ w1 = wC G A c) 0 0) tg_E0 (tg_R 0 0) "TramGod$World" "othersOf" cX5_othersOf 4 (some .int) 4 [(0, .ref (A 3)), (1, .int a1), (2, .int a2), (3, .int a3)] [] (wC G A c) 0 0 := by
  intro n
  induction n with
  | zero => intro a2 a3 h; exact absurd h (by simp [fX5_othersOf_L4])
  | succ n ih =>
    intro a2 a3 h
    unfold fX5_othersOf_L4 at h
    refine V_iload_n eX5_othersOf_4 3 rfl ?_
    refine V_bipush (v := (8 : Int32)) eX5_othersOf_5 rfl ?_
    refine V_icmp_ge (tgt := 34) eX5_othersOf_7 rfl (fun hb1 => ?_) (fun hb1 => ?_)
    · replace h := (if_pos hb1).symm.trans h
      refine V_iload_n eX5_othersOf_34 2 rfl ?_
      obtain rfl := Option.some.inj h
      exact V_ret eX5_othersOf_35 rfl ⟨rfl, rfl⟩
    · replace h := (if_neg hb1).symm.trans h
      refine V_iload_n eX5_othersOf_10 1 rfl ?_
      refine V_iload_n eX5_othersOf_11 3 rfl ?_
      refine V_ishr eX5_othersOf_12 ?_
      refine V_iconst (v := (1 : Int32)) eX5_othersOf_13 rfl ?_
      refine V_iand eX5_othersOf_14 ?_
      refine V_iconst (v := (1 : Int32)) eX5_othersOf_15 rfl ?_
      refine jn_elim h (fun j => ∀ (x2 : Int32), j x2 = some z → V l G (tg_Zm G (fun v w1 => v = some (.int z) ∧ w1 = wC G A c) 0 0) tg_E0 (tg_R 0 0) "TramGod$World" "othersOf" cX5_othersOf 4 (some .int) 28 [(0, .ref (A 3)), (1, .int a1), (2, .int x2), (3, .int a3)] [] (wC G A c) 0 0) ?_ (fun j28 hj28 h => ?_)
      · intro x2 h
        refine V_iinc (v := (a3 + (1 : Int32))) (lv' := [(3, .int (a3 + (1 : Int32))), (0, .ref (A 3)), (1, .int a1), (2, .int x2)]) eX5_othersOf_28 3 rfl rfl (Nat.le_of_ble_eq_true rfl) rfl ?_
        refine V_goto (tgt := 4) eX5_othersOf_31 rfl ?_
        refine V_lv (lv' := [(0, .ref (A 3)), (1, .int a1), (2, .int x2), (3, .int (a3 + (1 : Int32)))]) [1, 2, 3, 0] rfl ?_
        exact ih x2 (a3 + (1 : Int32)) h
      refine V_icmp_ne (tgt := 28) eX5_othersOf_16 rfl (fun hb3 => ?_) (fun hb3 => ?_)
      · replace h := (if_neg hb3).symm.trans h
        exact hj28 a2 h
      · replace h := (if_pos hb3).symm.trans h
        refine V_iload_n eX5_othersOf_19 2 rfl ?_
        refine V_aload_n eX5_othersOf_20 0 rfl ?_
        refine V_get (v := .ref (A 9)) eX5_othersOf_21 inX5 3 rfl rfl 13 (Nat.le_of_ble_eq_true rfl) tw_77 rfl ?_
        refine V_iload_n eX5_othersOf_24 3 rfl ?_
        obtain ⟨v4, hi4, ev4, h⟩ := ald_some h
        refine V_ialdv eX5_othersOf_25 9 rfl hi4 ev4 ?_
        refine V_iadd eX5_othersOf_26 ?_
        refine V_istore_n (lv' := [(2, .int (a2 + v4)), (0, .ref (A 3)), (1, .int a1), (3, .int a3)]) eX5_othersOf_27 (Nat.le_of_ble_eq_true rfl) rfl ?_
        refine V_lv (lv' := [(0, .ref (A 3)), (1, .int a1), (2, .int (a2 + v4)), (3, .int a3)]) [1, 2, 0, 3] rfl ?_
        exact hj28 (a2 + v4) h
set_option maxRecDepth 20000 in
theorem ctX5_othersOf (l : Launch) (G : tg_G) (A : Nat → Nat) (c : SS) (p1 : Int32) {z : Int32} (h : fX5_othersOf c p1 = some z) : Mt l G yX5_othersOf cX5_othersOf 4 (some .int) (tg_R 0 0) [.ref (A 3), .int p1] (wC G A c) (fun v w1 => v = some (.int z) ∧ w1 = wC G A c) := by
  refine Mt_of2 (own := "TramGod$World") (nm := "othersOf") rfl rfl rfl (Nat.le_of_ble_eq_true rfl) (lv := [(0, .ref (A 3)), (1, .int p1)]) rfl ?_
  unfold fX5_othersOf at h
  refine V_iconst (v := (0 : Int32)) eX5_othersOf_0 rfl ?_
  refine V_istore_n (lv' := [(2, .int (0 : Int32)), (0, .ref (A 3)), (1, .int p1)]) eX5_othersOf_1 (Nat.le_of_ble_eq_true rfl) rfl ?_
  refine V_iconst (v := (0 : Int32)) eX5_othersOf_2 rfl ?_
  refine V_istore_n (lv' := [(3, .int (0 : Int32)), (2, .int (0 : Int32)), (0, .ref (A 3)), (1, .int p1)]) eX5_othersOf_3 (Nat.le_of_ble_eq_true rfl) rfl ?_
  refine V_lv (lv' := [(0, .ref (A 3)), (1, .int p1), (2, .int (0 : Int32)), (3, .int (0 : Int32))]) [2, 3, 1, 0] rfl ?_
  refine ctX5_othersOf_L4 l G A c p1 fu (0 : Int32) (0 : Int32) h
theorem hdX5_goodAmong : yX5_goodAmong.cls ≠ "java/lang/invoke/MethodHandle" ∧ yX5_goodAmong.cls ≠ "java/lang/invoke/VarHandle" ∧ (parseMethodDescriptor yX5_goodAmong.desc).map (fun d => d.parameters.length) = some 2 := by decide +kernel
theorem eX5_goodAmong_0 : Dc cX5_goodAmong 0 (.iconst 0) 1 1 := ⟨by decide +kernel, rfl⟩
theorem eX5_goodAmong_1 : Dc cX5_goodAmong 1 (.istore_n 3) 1 2 := ⟨by decide +kernel, rfl⟩
theorem eX5_goodAmong_2 : Dc cX5_goodAmong 2 (.iconst 0) 1 3 := ⟨by decide +kernel, rfl⟩
theorem eX5_goodAmong_3 : Dc cX5_goodAmong 3 (.istore 4) 2 5 := ⟨by decide +kernel, rfl⟩
theorem eX5_goodAmong_5 : Dc cX5_goodAmong 5 (.iload 4) 2 7 := ⟨by decide +kernel, rfl⟩
theorem eX5_goodAmong_7 : Dc cX5_goodAmong 7 (.bipush 8) 2 9 := ⟨by decide +kernel, rfl⟩
theorem eX5_goodAmong_9 : Dc cX5_goodAmong 9 (.if_icmp .ge 49) 3 12 := ⟨by decide +kernel, rfl⟩
theorem eX5_goodAmong_12 : Dc cX5_goodAmong 12 (.iload_n 1) 1 13 := ⟨by decide +kernel, rfl⟩
theorem eX5_goodAmong_13 : Dc cX5_goodAmong 13 (.iload 4) 2 15 := ⟨by decide +kernel, rfl⟩
theorem eX5_goodAmong_15 : Dc cX5_goodAmong 15 (.ishr) 1 16 := ⟨by decide +kernel, rfl⟩
theorem eX5_goodAmong_16 : Dc cX5_goodAmong 16 (.iconst 1) 1 17 := ⟨by decide +kernel, rfl⟩
theorem eX5_goodAmong_17 : Dc cX5_goodAmong 17 (.iand) 1 18 := ⟨by decide +kernel, rfl⟩
theorem eX5_goodAmong_18 : Dc cX5_goodAmong 18 (.iconst 1) 1 19 := ⟨by decide +kernel, rfl⟩
theorem eX5_goodAmong_19 : Dc cX5_goodAmong 19 (.if_icmp .ne 33) 3 22 := ⟨by decide +kernel, rfl⟩
theorem eX5_goodAmong_22 : Dc cX5_goodAmong 22 (.iload_n 3) 1 23 := ⟨by decide +kernel, rfl⟩
theorem eX5_goodAmong_23 : Dc cX5_goodAmong 23 (.iload_n 2) 1 24 := ⟨by decide +kernel, rfl⟩
theorem eX5_goodAmong_24 : Dc cX5_goodAmong 24 (.iload 4) 2 26 := ⟨by decide +kernel, rfl⟩
theorem eX5_goodAmong_26 : Dc cX5_goodAmong 26 (.ishr) 1 27 := ⟨by decide +kernel, rfl⟩
theorem eX5_goodAmong_27 : Dc cX5_goodAmong 27 (.iconst 1) 1 28 := ⟨by decide +kernel, rfl⟩
theorem eX5_goodAmong_28 : Dc cX5_goodAmong 28 (.iand) 1 29 := ⟨by decide +kernel, rfl⟩
theorem eX5_goodAmong_29 : Dc cX5_goodAmong 29 (.iconst 1) 1 30 := ⟨by decide +kernel, rfl⟩
theorem eX5_goodAmong_30 : Dc cX5_goodAmong 30 (.if_icmp .ne 13) 3 33 := ⟨by decide +kernel, rfl⟩
theorem eX5_goodAmong_33 : Dc cX5_goodAmong 33 (.aload_n 0) 1 34 := ⟨by decide +kernel, rfl⟩
theorem eX5_goodAmong_34 : Dc cX5_goodAmong 34 (.getfield 31) 3 37 := ⟨by decide +kernel, rfl⟩
theorem eX5_goodAmong_37 : Dc cX5_goodAmong 37 (.iload 4) 2 39 := ⟨by decide +kernel, rfl⟩
theorem eX5_goodAmong_39 : Dc cX5_goodAmong 39 (.iaload) 1 40 := ⟨by decide +kernel, rfl⟩
theorem eX5_goodAmong_40 : Dc cX5_goodAmong 40 (.goto 10) 3 43 := ⟨by decide +kernel, rfl⟩
theorem eX5_goodAmong_43 : Dc cX5_goodAmong 43 (.aload_n 0) 1 44 := ⟨by decide +kernel, rfl⟩
theorem eX5_goodAmong_44 : Dc cX5_goodAmong 44 (.getfield 34) 3 47 := ⟨by decide +kernel, rfl⟩
theorem eX5_goodAmong_47 : Dc cX5_goodAmong 47 (.iload 4) 2 49 := ⟨by decide +kernel, rfl⟩
theorem eX5_goodAmong_49 : Dc cX5_goodAmong 49 (.iaload) 1 50 := ⟨by decide +kernel, rfl⟩
theorem eX5_goodAmong_50 : Dc cX5_goodAmong 50 (.iadd) 1 51 := ⟨by decide +kernel, rfl⟩
theorem eX5_goodAmong_51 : Dc cX5_goodAmong 51 (.istore_n 3) 1 52 := ⟨by decide +kernel, rfl⟩
theorem eX5_goodAmong_52 : Dc cX5_goodAmong 52 (.iinc 4 1) 3 55 := ⟨by decide +kernel, rfl⟩
theorem eX5_goodAmong_55 : Dc cX5_goodAmong 55 (.goto (-50)) 3 58 := ⟨by decide +kernel, rfl⟩
theorem eX5_goodAmong_58 : Dc cX5_goodAmong 58 (.iload_n 3) 1 59 := ⟨by decide +kernel, rfl⟩
theorem eX5_goodAmong_59 : Dc cX5_goodAmong 59 (.ireturn) 1 60 := ⟨by decide +kernel, rfl⟩
def fX5_goodAmong_L5  (c : SS) (a1 : Int32) (a2 : Int32) : Nat → Int32 → Int32 → Option (Int32)
  | 0, _, _ => none
  | n + 1, a3, a4 => if (8 : Int32) ≤ a4 then some a3 else jn (fun (x2 : Int32) => fX5_goodAmong_L5 c a1 a2 n x2 (a4 + (1 : Int32))) (fun j52 => if ((a1 >>> (a4 &&& 31)) &&& (1 : Int32)) = (1 : Int32) then jn (fun (x4 : Int32) => j52 (a3 + x4)) (fun j50 => if ((a2 >>> (a4 &&& 31)) &&& (1 : Int32)) = (1 : Int32) then ald 8 (c.2 4) a4 (fun v7 => j50 v7) else ald 8 (c.2 5) a4 (fun v6 => j50 v6)) else j52 a3)
def fX5_goodAmong (c : SS) (p1 : Int32) (p2 : Int32) : Option (Int32) := fX5_goodAmong_L5 c p1 p2 fu (0 : Int32) (0 : Int32)
set_option maxRecDepth 20000 in
theorem ctX5_goodAmong_L5 (l : Launch) (G : tg_G) (A : Nat → Nat)  (c : SS) (a1 : Int32) (a2 : Int32) {z : Int32}  : ∀ (n : Nat) (a3 : Int32) (a4 : Int32), fX5_goodAmong_L5 c a1 a2 n a3 a4 = some z → V l G (tg_Zm G (fun v w1 => v = some (.int z) ∧ w1 = wC G A c) 0 0) tg_E0 (tg_R 0 0) "TramGod$World" "goodAmong" cX5_goodAmong 5 (some .int) 5 [(0, .ref (A 3)), (1, .int a1), (2, .int a2), (3, .int a3), (4, .int a4)] [] (wC G A c) 0 0 := by
  intro n
  induction n with
  | zero => intro a3 a4 h; exact absurd h (by simp [fX5_goodAmong_L5])
  | succ n ih =>
    intro a3 a4 h
    unfold fX5_goodAmong_L5 at h
    refine V_iload eX5_goodAmong_5 4 rfl ?_
    refine V_bipush (v := (8 : Int32)) eX5_goodAmong_7 rfl ?_
    refine V_icmp_ge (tgt := 58) eX5_goodAmong_9 rfl (fun hb1 => ?_) (fun hb1 => ?_)
    · replace h := (if_pos hb1).symm.trans h
      refine V_iload_n eX5_goodAmong_58 3 rfl ?_
      obtain rfl := Option.some.inj h
      exact V_ret eX5_goodAmong_59 rfl ⟨rfl, rfl⟩
    · replace h := (if_neg hb1).symm.trans h
      refine V_iload_n eX5_goodAmong_12 1 rfl ?_
      refine V_iload eX5_goodAmong_13 4 rfl ?_
      refine V_ishr eX5_goodAmong_15 ?_
      refine V_iconst (v := (1 : Int32)) eX5_goodAmong_16 rfl ?_
      refine V_iand eX5_goodAmong_17 ?_
      refine V_iconst (v := (1 : Int32)) eX5_goodAmong_18 rfl ?_
      refine jn_elim h (fun j => ∀ (x2 : Int32), j x2 = some z → V l G (tg_Zm G (fun v w1 => v = some (.int z) ∧ w1 = wC G A c) 0 0) tg_E0 (tg_R 0 0) "TramGod$World" "goodAmong" cX5_goodAmong 5 (some .int) 52 [(0, .ref (A 3)), (1, .int a1), (2, .int a2), (3, .int x2), (4, .int a4)] [] (wC G A c) 0 0) ?_ (fun j52 hj52 h => ?_)
      · intro x2 h
        refine V_iinc (v := (a4 + (1 : Int32))) (lv' := [(4, .int (a4 + (1 : Int32))), (0, .ref (A 3)), (1, .int a1), (2, .int a2), (3, .int x2)]) eX5_goodAmong_52 4 rfl rfl (Nat.le_of_ble_eq_true rfl) rfl ?_
        refine V_goto (tgt := 5) eX5_goodAmong_55 rfl ?_
        refine V_lv (lv' := [(0, .ref (A 3)), (1, .int a1), (2, .int a2), (3, .int x2), (4, .int (a4 + (1 : Int32)))]) [1, 2, 3, 4, 0] rfl ?_
        exact ih x2 (a4 + (1 : Int32)) h
      refine V_icmp_ne (tgt := 52) eX5_goodAmong_19 rfl (fun hb3 => ?_) (fun hb3 => ?_)
      · replace h := (if_neg hb3).symm.trans h
        exact hj52 a3 h
      · replace h := (if_pos hb3).symm.trans h
        refine V_iload_n eX5_goodAmong_22 3 rfl ?_
        refine V_iload_n eX5_goodAmong_23 2 rfl ?_
        refine V_iload eX5_goodAmong_24 4 rfl ?_
        refine V_ishr eX5_goodAmong_26 ?_
        refine V_iconst (v := (1 : Int32)) eX5_goodAmong_27 rfl ?_
        refine V_iand eX5_goodAmong_28 ?_
        refine V_iconst (v := (1 : Int32)) eX5_goodAmong_29 rfl ?_
        refine jn_elim h (fun j => ∀ (x4 : Int32), j x4 = some z → V l G (tg_Zm G (fun v w1 => v = some (.int z) ∧ w1 = wC G A c) 0 0) tg_E0 (tg_R 0 0) "TramGod$World" "goodAmong" cX5_goodAmong 5 (some .int) 50 [(0, .ref (A 3)), (1, .int a1), (2, .int a2), (4, .int a4)] [.int x4, .int a3] (wC G A c) 0 0) ?_ (fun j50 hj50 h => ?_)
        · intro x4 h
          refine V_iadd eX5_goodAmong_50 ?_
          refine V_istore_n (lv' := [(3, .int (a3 + x4)), (0, .ref (A 3)), (1, .int a1), (2, .int a2), (4, .int a4)]) eX5_goodAmong_51 (Nat.le_of_ble_eq_true rfl) rfl ?_
          refine V_lv (lv' := [(0, .ref (A 3)), (1, .int a1), (2, .int a2), (3, .int (a3 + x4)), (4, .int a4)]) [1, 2, 3, 0, 4] rfl ?_
          exact hj52 (a3 + x4) h
        refine V_icmp_ne (tgt := 43) eX5_goodAmong_30 rfl (fun hb5 => ?_) (fun hb5 => ?_)
        · replace h := (if_neg hb5).symm.trans h
          refine V_aload_n eX5_goodAmong_43 0 rfl ?_
          refine V_get (v := .ref (A 8)) eX5_goodAmong_44 inX5 3 rfl rfl 12 (Nat.le_of_ble_eq_true rfl) tw_74 rfl ?_
          refine V_iload eX5_goodAmong_47 4 rfl ?_
          obtain ⟨v6, hi6, ev6, h⟩ := ald_some h
          refine V_ialdv eX5_goodAmong_49 8 rfl hi6 ev6 ?_
          refine V_lv (lv' := [(0, .ref (A 3)), (1, .int a1), (2, .int a2), (4, .int a4)]) [0, 1, 2, 4] rfl ?_
          exact hj50 v6 h
        · replace h := (if_pos hb5).symm.trans h
          refine V_aload_n eX5_goodAmong_33 0 rfl ?_
          refine V_get (v := .ref (A 7)) eX5_goodAmong_34 inX5 3 rfl rfl 11 (Nat.le_of_ble_eq_true rfl) tw_71 rfl ?_
          refine V_iload eX5_goodAmong_37 4 rfl ?_
          obtain ⟨v7, hi7, ev7, h⟩ := ald_some h
          refine V_ialdv eX5_goodAmong_39 7 rfl hi7 ev7 ?_
          refine V_goto (tgt := 50) eX5_goodAmong_40 rfl ?_
          refine V_lv (lv' := [(0, .ref (A 3)), (1, .int a1), (2, .int a2), (4, .int a4)]) [0, 1, 2, 4] rfl ?_
          exact hj50 v7 h
set_option maxRecDepth 20000 in
theorem ctX5_goodAmong (l : Launch) (G : tg_G) (A : Nat → Nat) (c : SS) (p1 : Int32) (p2 : Int32) {z : Int32} (h : fX5_goodAmong c p1 p2 = some z) : Mt l G yX5_goodAmong cX5_goodAmong 5 (some .int) (tg_R 0 0) [.ref (A 3), .int p1, .int p2] (wC G A c) (fun v w1 => v = some (.int z) ∧ w1 = wC G A c) := by
  refine Mt_of2 (own := "TramGod$World") (nm := "goodAmong") rfl rfl rfl (Nat.le_of_ble_eq_true rfl) (lv := [(0, .ref (A 3)), (1, .int p1), (2, .int p2)]) rfl ?_
  unfold fX5_goodAmong at h
  refine V_iconst (v := (0 : Int32)) eX5_goodAmong_0 rfl ?_
  refine V_istore_n (lv' := [(3, .int (0 : Int32)), (0, .ref (A 3)), (1, .int p1), (2, .int p2)]) eX5_goodAmong_1 (Nat.le_of_ble_eq_true rfl) rfl ?_
  refine V_iconst (v := (0 : Int32)) eX5_goodAmong_2 rfl ?_
  refine V_istore (lv' := [(4, .int (0 : Int32)), (3, .int (0 : Int32)), (0, .ref (A 3)), (1, .int p1), (2, .int p2)]) eX5_goodAmong_3 (Nat.le_of_ble_eq_true rfl) rfl ?_
  refine V_lv (lv' := [(0, .ref (A 3)), (1, .int p1), (2, .int p2), (3, .int (0 : Int32)), (4, .int (0 : Int32))]) [2, 3, 4, 1, 0] rfl ?_
  refine ctX5_goodAmong_L5 l G A c p1 p2 fu (0 : Int32) (0 : Int32) h
theorem hdX5_goodOf : yX5_goodOf.cls ≠ "java/lang/invoke/MethodHandle" ∧ yX5_goodOf.cls ≠ "java/lang/invoke/VarHandle" ∧ (parseMethodDescriptor yX5_goodOf.desc).map (fun d => d.parameters.length) = some 1 := by decide +kernel
theorem eX5_goodOf_0 : Dc cX5_goodOf 0 (.aload_n 0) 1 1 := ⟨by decide +kernel, rfl⟩
theorem eX5_goodOf_1 : Dc cX5_goodOf 1 (.aload_n 0) 1 2 := ⟨by decide +kernel, rfl⟩
theorem eX5_goodOf_2 : Dc cX5_goodOf 2 (.getfield 46) 3 5 := ⟨by decide +kernel, rfl⟩
theorem eX5_goodOf_5 : Dc cX5_goodOf 5 (.iload_n 1) 1 6 := ⟨by decide +kernel, rfl⟩
theorem eX5_goodOf_6 : Dc cX5_goodOf 6 (.invokevirtual 93) 3 9 := ⟨by decide +kernel, rfl⟩
theorem eX5_goodOf_9 : Dc cX5_goodOf 9 (.ireturn) 1 10 := ⟨by decide +kernel, rfl⟩
def fX5_goodOf (c : SS) (p1 : Int32) : Option (Int32) := Option.bind (fX5_goodAmong c (c.1 5) p1) (fun q1 => some q1)
set_option maxRecDepth 20000 in
theorem ctX5_goodOf (l : Launch) (G : tg_G) (A : Nat → Nat) (c : SS) (p1 : Int32) {z : Int32} (h : fX5_goodOf c p1 = some z) : Mt l G yX5_goodOf cX5_goodOf 2 (some .int) (tg_R 1 24) [.ref (A 3), .int p1] (wC G A c) (fun v w1 => v = some (.int z) ∧ w1 = wC G A c) := by
  refine Mt_of2 (own := "TramGod$World") (nm := "goodOf") rfl rfl rfl (Nat.le_of_ble_eq_true rfl) (lv := [(0, .ref (A 3)), (1, .int p1)]) rfl ?_
  unfold fX5_goodOf at h
  refine V_aload_n eX5_goodOf_0 0 rfl ?_
  refine V_aload_n eX5_goodOf_1 0 rfl ?_
  refine V_get (v := .int (c.1 5)) eX5_goodOf_2 inX5 3 rfl rfl 4 (Nat.le_of_ble_eq_true rfl) tw_54 rfl ?_
  refine V_iload_n eX5_goodOf_5 1 rfl ?_
  obtain ⟨q1, hc1, h⟩ := Option.bind_eq_some_iff.mp h
  refine V_callVi (rest := []) eX5_goodOf_6 (ctX5_goodAmong l G A c (c.1 5) p1 hc1) tc_381 tw_378 tw_3 tw_379 tw_380 3 rfl rfl hdX5_goodAmong rfl ⟨Nat.le_of_ble_eq_true rfl, Nat.le_of_ble_eq_true rfl⟩ rfl (Nat.le_of_ble_eq_true rfl) ⟨Nat.zero_le _, Nat.zero_le _⟩ ?_
  obtain rfl := Option.some.inj h
  exact V_ret eX5_goodOf_9 rfl ⟨rfl, rfl⟩
theorem hdX6_good : yX6_good.cls ≠ "java/lang/invoke/MethodHandle" ∧ yX6_good.cls ≠ "java/lang/invoke/VarHandle" ∧ (parseMethodDescriptor yX6_good.desc).map (fun d => d.parameters.length) = some 1 := by decide +kernel
theorem eX6_good_0 : Dc cX6_good 0 (.iload_n 1) 1 1 := ⟨by decide +kernel, rfl⟩
theorem eX6_good_1 : Dc cX6_good 1 (.iconst 0) 1 2 := ⟨by decide +kernel, rfl⟩
theorem eX6_good_2 : Dc cX6_good 2 (.iconst 1) 1 3 := ⟨by decide +kernel, rfl⟩
theorem eX6_good_3 : Dc cX6_good 3 (.invokestatic 68) 3 6 := ⟨by decide +kernel, rfl⟩
theorem eX6_good_6 : Dc cX6_good 6 (.ifCond .ne 6) 3 9 := ⟨by decide +kernel, rfl⟩
theorem eX6_good_9 : Dc cX6_good 9 (.bipush (-2)) 2 11 := ⟨by decide +kernel, rfl⟩
theorem eX6_good_11 : Dc cX6_good 11 (.ireturn) 1 12 := ⟨by decide +kernel, rfl⟩
theorem eX6_good_12 : Dc cX6_good 12 (.aload_n 0) 1 13 := ⟨by decide +kernel, rfl⟩
theorem eX6_good_13 : Dc cX6_good 13 (.invokevirtual 147) 3 16 := ⟨by decide +kernel, rfl⟩
theorem eX6_good_16 : Dc cX6_good 16 (.ifCond .ne 6) 3 19 := ⟨by decide +kernel, rfl⟩
theorem eX6_good_19 : Dc cX6_good 19 (.bipush (-5)) 2 21 := ⟨by decide +kernel, rfl⟩
theorem eX6_good_21 : Dc cX6_good 21 (.ireturn) 1 22 := ⟨by decide +kernel, rfl⟩
theorem eX6_good_22 : Dc cX6_good 22 (.aload_n 0) 1 23 := ⟨by decide +kernel, rfl⟩
theorem eX6_good_23 : Dc cX6_good 23 (.getfield 32) 3 26 := ⟨by decide +kernel, rfl⟩
theorem eX6_good_26 : Dc cX6_good 26 (.aload_n 0) 1 27 := ⟨by decide +kernel, rfl⟩
theorem eX6_good_27 : Dc cX6_good 27 (.getfield 65) 3 30 := ⟨by decide +kernel, rfl⟩
theorem eX6_good_30 : Dc cX6_good 30 (.invokevirtual 150) 3 33 := ⟨by decide +kernel, rfl⟩
theorem eX6_good_33 : Dc cX6_good 33 (.istore_n 2) 1 34 := ⟨by decide +kernel, rfl⟩
theorem eX6_good_34 : Dc cX6_good 34 (.sipush 1000) 3 37 := ⟨by decide +kernel, rfl⟩
theorem eX6_good_37 : Dc cX6_good 37 (.iload_n 1) 1 38 := ⟨by decide +kernel, rfl⟩
theorem eX6_good_38 : Dc cX6_good 38 (.ifCond .ne 14) 3 41 := ⟨by decide +kernel, rfl⟩
theorem eX6_good_41 : Dc cX6_good 41 (.aload_n 0) 1 42 := ⟨by decide +kernel, rfl⟩
theorem eX6_good_42 : Dc cX6_good 42 (.getfield 19) 3 45 := ⟨by decide +kernel, rfl⟩
theorem eX6_good_45 : Dc cX6_good 45 (.iload_n 2) 1 46 := ⟨by decide +kernel, rfl⟩
theorem eX6_good_46 : Dc cX6_good 46 (.invokevirtual 154) 3 49 := ⟨by decide +kernel, rfl⟩
theorem eX6_good_49 : Dc cX6_good 49 (.goto 11) 3 52 := ⟨by decide +kernel, rfl⟩
theorem eX6_good_52 : Dc cX6_good 52 (.aload_n 0) 1 53 := ⟨by decide +kernel, rfl⟩
theorem eX6_good_53 : Dc cX6_good 53 (.getfield 19) 3 56 := ⟨by decide +kernel, rfl⟩
theorem eX6_good_56 : Dc cX6_good 56 (.iload_n 2) 1 57 := ⟨by decide +kernel, rfl⟩
theorem eX6_good_57 : Dc cX6_good 57 (.invokevirtual 157) 3 60 := ⟨by decide +kernel, rfl⟩
theorem eX6_good_60 : Dc cX6_good 60 (.iadd) 1 61 := ⟨by decide +kernel, rfl⟩
theorem eX6_good_61 : Dc cX6_good 61 (.ireturn) 1 62 := ⟨by decide +kernel, rfl⟩
def fX6_good (c : SS) (p1 : Int32) : Option (Int32 × SS) := if (fX6_within p1 (0 : Int32) (1 : Int32)) = (0 : Int32) then some ((-2 : Int32), c) else Option.bind (fX6_readGoodHold c) (fun q2 => if q2.1 = (0 : Int32) then some ((-5 : Int32), q2.2) else Option.bind (fX4_ridersBy_27 q2.2) (fun q4 => jn (fun (x5 : Int32) => some (((1000 : Int32) + x5), q2.2)) (fun j60 => if p1 = (0 : Int32) then Option.bind (fX5_goodOf q2.2 q4) (fun q8 => j60 q8) else Option.bind (fX5_othersOf q2.2 q4) (fun q7 => j60 q7))))
set_option maxRecDepth 20000 in
theorem ctX6_good (l : Launch) (G : tg_G) (A : Nat → Nat) (c : SS) (p1 : Int32) {z : Int32 × SS} (h : fX6_good c p1 = some z) : Mt l G yX6_good cX6_good 3 (some .int) (tg_R 4 87) [.ref (A 0), .int p1] (wC G A c) (fun v w1 => v = some (.int z.1) ∧ w1 = wC G A z.2) := by
  refine Mt_of2 (own := "TramGod") (nm := "good") rfl rfl rfl (Nat.le_of_ble_eq_true rfl) (lv := [(0, .ref (A 0)), (1, .int p1)]) rfl ?_
  unfold fX6_good at h
  refine V_iload_n eX6_good_0 1 rfl ?_
  refine V_iconst (v := (0 : Int32)) eX6_good_1 rfl ?_
  refine V_iconst (v := (1 : Int32)) eX6_good_2 rfl ?_
  refine V_callSi (rest := []) eX6_good_3 (ctX6_within l G _ p1 (0 : Int32) (1 : Int32) rfl) tc_241 tw_239 tw_1 tw_240 hdX6_within rfl ⟨Nat.le_of_ble_eq_true rfl, Nat.le_of_ble_eq_true rfl⟩ rfl (Nat.le_of_ble_eq_true rfl) ⟨Nat.zero_le _, Nat.zero_le _⟩ ?_
  refine V_if_ne (tgt := 12) eX6_good_6 rfl (fun hb1 => ?_) (fun hb1 => ?_)
  · replace h := (if_neg hb1).symm.trans h
    refine V_aload_n eX6_good_12 0 rfl ?_
    obtain ⟨q2, hc2, h⟩ := Option.bind_eq_some_iff.mp h
    refine V_callVi (rest := []) eX6_good_13 (ctX6_readGoodHold l G A c hc2) tc_348 tw_345 tw_1 tw_347 ts_3 0 rfl rfl hdX6_readGoodHold rfl ⟨Nat.le_of_ble_eq_true rfl, Nat.le_of_ble_eq_true rfl⟩ rfl (Nat.le_of_ble_eq_true rfl) ⟨Nat.zero_le _, Nat.zero_le _⟩ ?_
    refine V_if_ne (tgt := 22) eX6_good_16 rfl (fun hb3 => ?_) (fun hb3 => ?_)
    · replace h := (if_neg hb3).symm.trans h
      refine V_aload_n eX6_good_22 0 rfl ?_
      refine V_get (v := .ref (A 11)) eX6_good_23 inX6 0 rfl rfl 3 (Nat.le_of_ble_eq_true rfl) tw_210 rfl ?_
      refine V_aload_n eX6_good_26 0 rfl ?_
      refine V_get (v := .ref (A 27)) eX6_good_27 inX6 0 rfl rfl 8 (Nat.le_of_ble_eq_true rfl) tw_215 rfl ?_
      obtain ⟨q4, hc4, h⟩ := Option.bind_eq_some_iff.mp h
      refine V_callVi (rest := []) eX6_good_30 (ctX4_ridersBy_27 l G A q2.2 hc4) tc_365 tw_362 tw_4 tw_363 tw_364 11 rfl rfl hdX4_ridersBy rfl ⟨Nat.le_of_ble_eq_true rfl, Nat.le_of_ble_eq_true rfl⟩ rfl (Nat.le_of_ble_eq_true rfl) ⟨Nat.zero_le _, Nat.zero_le _⟩ ?_
      refine V_istore_n (lv' := [(2, .int q4), (0, .ref (A 0)), (1, .int p1)]) eX6_good_33 (Nat.le_of_ble_eq_true rfl) rfl ?_
      refine V_sipush (v := (1000 : Int32)) eX6_good_34 rfl ?_
      refine V_iload_n eX6_good_37 2 rfl ?_
      refine jn_elim h (fun j => ∀ (x5 : Int32), j x5 = some z → V l G (tg_Zm G (fun v w1 => v = some (.int z.1) ∧ w1 = wC G A z.2) 0 0) tg_E0 (tg_R 4 87) "TramGod" "good" cX6_good 3 (some .int) 60 [] [.int x5, .int (1000 : Int32)] (wC G A q2.2) 0 0) ?_ (fun j60 hj60 h => ?_)
      · intro x5 h
        refine V_iadd eX6_good_60 ?_
        obtain rfl := Option.some.inj h
        exact V_ret eX6_good_61 rfl ⟨rfl, rfl⟩
      refine V_if_ne (tgt := 52) eX6_good_38 rfl (fun hb6 => ?_) (fun hb6 => ?_)
      · replace h := (if_neg hb6).symm.trans h
        refine V_aload_n eX6_good_52 1 rfl ?_
        refine V_get (v := .ref (A 3)) eX6_good_53 inX6 0 rfl rfl 1 (Nat.le_of_ble_eq_true rfl) tw_208 rfl ?_
        refine V_iload_n eX6_good_56 0 rfl ?_
        obtain ⟨q7, hc7, h⟩ := Option.bind_eq_some_iff.mp h
        refine V_callVi (rest := [.int (1000 : Int32)]) eX6_good_57 (ctX5_othersOf l G A q2.2 q4 hc7) tc_385 tw_382 tw_3 tw_383 tw_384 3 rfl rfl hdX5_othersOf rfl ⟨Nat.le_of_ble_eq_true rfl, Nat.le_of_ble_eq_true rfl⟩ rfl (Nat.le_of_ble_eq_true rfl) ⟨Nat.zero_le _, Nat.zero_le _⟩ ?_
        refine V_lv (lv' := []) [] rfl ?_
        exact hj60 q7 h
      · replace h := (if_pos hb6).symm.trans h
        refine V_aload_n eX6_good_41 1 rfl ?_
        refine V_get (v := .ref (A 3)) eX6_good_42 inX6 0 rfl rfl 1 (Nat.le_of_ble_eq_true rfl) tw_208 rfl ?_
        refine V_iload_n eX6_good_45 0 rfl ?_
        obtain ⟨q8, hc8, h⟩ := Option.bind_eq_some_iff.mp h
        refine V_callVi (rest := [.int (1000 : Int32)]) eX6_good_46 (ctX5_goodOf l G A q2.2 q4 hc8) tc_377 tw_374 tw_3 tw_375 tw_376 3 rfl rfl hdX5_goodOf rfl ⟨Nat.le_of_ble_eq_true rfl, Nat.le_of_ble_eq_true rfl⟩ rfl (Nat.le_of_ble_eq_true rfl) ⟨Nat.zero_le _, Nat.zero_le _⟩ ?_
        refine V_goto (tgt := 60) eX6_good_49 rfl ?_
        refine V_lv (lv' := []) [] rfl ?_
        exact hj60 q8 h
    · replace h := (if_pos hb3).symm.trans h
      refine V_bipush (v := (-5 : Int32)) eX6_good_19 rfl ?_
      obtain rfl := Option.some.inj h
      exact V_ret eX6_good_21 rfl ⟨rfl, rfl⟩
  · replace h := (if_pos hb1).symm.trans h
    refine V_bipush (v := (-2 : Int32)) eX6_good_9 rfl ?_
    obtain rfl := Option.some.inj h
    exact V_ret eX6_good_11 rfl ⟨rfl, rfl⟩
theorem hdX6_leaves : yX6_leaves.cls ≠ "java/lang/invoke/MethodHandle" ∧ yX6_leaves.cls ≠ "java/lang/invoke/VarHandle" ∧ (parseMethodDescriptor yX6_leaves.desc).map (fun d => d.parameters.length) = some 1 := by decide +kernel
theorem eX6_leaves_0 : Dc cX6_leaves 0 (.aload_n 0) 1 1 := ⟨by decide +kernel, rfl⟩
theorem eX6_leaves_1 : Dc cX6_leaves 1 (.getfield 19) 3 4 := ⟨by decide +kernel, rfl⟩
theorem eX6_leaves_4 : Dc cX6_leaves 4 (.iload_n 1) 1 5 := ⟨by decide +kernel, rfl⟩
theorem eX6_leaves_5 : Dc cX6_leaves 5 (.invokevirtual 91) 3 8 := ⟨by decide +kernel, rfl⟩
theorem eX6_leaves_8 : Dc cX6_leaves 8 (.ifCond .ne 5) 3 11 := ⟨by decide +kernel, rfl⟩
theorem eX6_leaves_11 : Dc cX6_leaves 11 (.iconst (-1)) 1 12 := ⟨by decide +kernel, rfl⟩
theorem eX6_leaves_12 : Dc cX6_leaves 12 (.ireturn) 1 13 := ⟨by decide +kernel, rfl⟩
theorem eX6_leaves_13 : Dc cX6_leaves 13 (.aload_n 0) 1 14 := ⟨by decide +kernel, rfl⟩
theorem eX6_leaves_14 : Dc cX6_leaves 14 (.invokevirtual 147) 3 17 := ⟨by decide +kernel, rfl⟩
theorem eX6_leaves_17 : Dc cX6_leaves 17 (.ifCond .eq 28) 3 20 := ⟨by decide +kernel, rfl⟩
theorem eX6_leaves_20 : Dc cX6_leaves 20 (.aload_n 0) 1 21 := ⟨by decide +kernel, rfl⟩
theorem eX6_leaves_21 : Dc cX6_leaves 21 (.getfield 19) 3 24 := ⟨by decide +kernel, rfl⟩
theorem eX6_leaves_24 : Dc cX6_leaves 24 (.iload_n 1) 1 25 := ⟨by decide +kernel, rfl⟩
theorem eX6_leaves_25 : Dc cX6_leaves 25 (.aload_n 0) 1 26 := ⟨by decide +kernel, rfl⟩
theorem eX6_leaves_26 : Dc cX6_leaves 26 (.getfield 19) 3 29 := ⟨by decide +kernel, rfl⟩
theorem eX6_leaves_29 : Dc cX6_leaves 29 (.getfield 94) 3 32 := ⟨by decide +kernel, rfl⟩
theorem eX6_leaves_32 : Dc cX6_leaves 32 (.invokevirtual 160) 3 35 := ⟨by decide +kernel, rfl⟩
theorem eX6_leaves_35 : Dc cX6_leaves 35 (.aload_n 0) 1 36 := ⟨by decide +kernel, rfl⟩
theorem eX6_leaves_36 : Dc cX6_leaves 36 (.getfield 65) 3 39 := ⟨by decide +kernel, rfl⟩
theorem eX6_leaves_39 : Dc cX6_leaves 39 (.iload_n 1) 1 40 := ⟨by decide +kernel, rfl⟩
theorem eX6_leaves_40 : Dc cX6_leaves 40 (.iaload) 1 41 := ⟨by decide +kernel, rfl⟩
theorem eX6_leaves_41 : Dc cX6_leaves 41 (.iadd) 1 42 := ⟨by decide +kernel, rfl⟩
theorem eX6_leaves_42 : Dc cX6_leaves 42 (.goto 5) 3 45 := ⟨by decide +kernel, rfl⟩
theorem eX6_leaves_45 : Dc cX6_leaves 45 (.bipush (-5)) 2 47 := ⟨by decide +kernel, rfl⟩
theorem eX6_leaves_47 : Dc cX6_leaves 47 (.ireturn) 1 48 := ⟨by decide +kernel, rfl⟩
def fX6_leaves (c : SS) (p1 : Int32) : Option (Int32 × SS) := if (fX5_isStop c p1) = (0 : Int32) then some ((-1 : Int32), c) else Option.bind (fX6_readGoodHold c) (fun q2 => if q2.1 = (0 : Int32) then some ((-5 : Int32), q2.2) else Option.bind (fX5_departs q2.2 p1 (q2.2.1 2)) (fun q4 => ald 6 (q2.2.2 20) p1 (fun v5 => some ((q4 + v5), q2.2))))
set_option maxRecDepth 20000 in
theorem ctX6_leaves (l : Launch) (G : tg_G) (A : Nat → Nat) (c : SS) (p1 : Int32) {z : Int32 × SS} (h : fX6_leaves c p1 = some z) : Mt l G yX6_leaves cX6_leaves 2 (some .int) (tg_R 4 87) [.ref (A 0), .int p1] (wC G A c) (fun v w1 => v = some (.int z.1) ∧ w1 = wC G A z.2) := by
  refine Mt_of2 (own := "TramGod") (nm := "leaves") rfl rfl rfl (Nat.le_of_ble_eq_true rfl) (lv := [(0, .ref (A 0)), (1, .int p1)]) rfl ?_
  unfold fX6_leaves at h
  refine V_aload_n eX6_leaves_0 0 rfl ?_
  refine V_get (v := .ref (A 3)) eX6_leaves_1 inX6 0 rfl rfl 1 (Nat.le_of_ble_eq_true rfl) tw_208 rfl ?_
  refine V_iload_n eX6_leaves_4 1 rfl ?_
  refine V_callVi (rest := []) eX6_leaves_5 (ctX5_isStop l G A c p1 rfl) tc_289 tw_286 tw_3 tw_287 tw_288 3 rfl rfl hdX5_isStop rfl ⟨Nat.le_of_ble_eq_true rfl, Nat.le_of_ble_eq_true rfl⟩ rfl (Nat.le_of_ble_eq_true rfl) ⟨Nat.zero_le _, Nat.zero_le _⟩ ?_
  refine V_if_ne (tgt := 13) eX6_leaves_8 rfl (fun hb1 => ?_) (fun hb1 => ?_)
  · replace h := (if_neg hb1).symm.trans h
    refine V_aload_n eX6_leaves_13 0 rfl ?_
    obtain ⟨q2, hc2, h⟩ := Option.bind_eq_some_iff.mp h
    refine V_callVi (rest := []) eX6_leaves_14 (ctX6_readGoodHold l G A c hc2) tc_348 tw_345 tw_1 tw_347 ts_3 0 rfl rfl hdX6_readGoodHold rfl ⟨Nat.le_of_ble_eq_true rfl, Nat.le_of_ble_eq_true rfl⟩ rfl (Nat.le_of_ble_eq_true rfl) ⟨Nat.zero_le _, Nat.zero_le _⟩ ?_
    refine V_if_eq (tgt := 45) eX6_leaves_17 rfl (fun hb3 => ?_) (fun hb3 => ?_)
    · replace h := (if_pos hb3).symm.trans h
      refine V_bipush (v := (-5 : Int32)) eX6_leaves_45 rfl ?_
      obtain rfl := Option.some.inj h
      exact V_ret eX6_leaves_47 rfl ⟨rfl, rfl⟩
    · replace h := (if_neg hb3).symm.trans h
      refine V_aload_n eX6_leaves_20 0 rfl ?_
      refine V_get (v := .ref (A 3)) eX6_leaves_21 inX6 0 rfl rfl 1 (Nat.le_of_ble_eq_true rfl) tw_208 rfl ?_
      refine V_iload_n eX6_leaves_24 1 rfl ?_
      refine V_aload_n eX6_leaves_25 0 rfl ?_
      refine V_get (v := .ref (A 3)) eX6_leaves_26 inX6 0 rfl rfl 1 (Nat.le_of_ble_eq_true rfl) tw_208 rfl ?_
      refine V_get (v := .int (q2.2.1 2)) eX6_leaves_29 inX5 3 rfl rfl 1 (Nat.le_of_ble_eq_true rfl) tw_47 rfl ?_
      obtain ⟨q4, hc4, h⟩ := Option.bind_eq_some_iff.mp h
      refine V_callVi (rest := []) eX6_leaves_32 (ctX5_departs l G A q2.2 p1 (q2.2.1 2) hc4) tc_357 tw_390 tw_3 tw_355 tw_356 3 rfl rfl hdX5_departs rfl ⟨Nat.le_of_ble_eq_true rfl, Nat.le_of_ble_eq_true rfl⟩ rfl (Nat.le_of_ble_eq_true rfl) ⟨Nat.zero_le _, Nat.zero_le _⟩ ?_
      refine V_aload_n eX6_leaves_35 0 rfl ?_
      refine V_get (v := .ref (A 27)) eX6_leaves_36 inX6 0 rfl rfl 8 (Nat.le_of_ble_eq_true rfl) tw_215 rfl ?_
      refine V_iload_n eX6_leaves_39 1 rfl ?_
      obtain ⟨v5, hi5, ev5, h⟩ := ald_some h
      refine V_ialdv eX6_leaves_40 27 rfl hi5 ev5 ?_
      refine V_iadd eX6_leaves_41 ?_
      refine V_goto (tgt := 47) eX6_leaves_42 rfl ?_
      obtain rfl := Option.some.inj h
      exact V_ret eX6_leaves_47 rfl ⟨rfl, rfl⟩
  · replace h := (if_pos hb1).symm.trans h
    refine V_iconst (v := (-1 : Int32)) eX6_leaves_11 rfl ?_
    obtain rfl := Option.some.inj h
    exact V_ret eX6_leaves_12 rfl ⟨rfl, rfl⟩
theorem hdX6_ridersWithout : yX6_ridersWithout.cls ≠ "java/lang/invoke/MethodHandle" ∧ yX6_ridersWithout.cls ≠ "java/lang/invoke/VarHandle" ∧ (parseMethodDescriptor yX6_ridersWithout.desc).map (fun d => d.parameters.length) = some 1 := by decide +kernel
theorem eX6_ridersWithout_0 : Dc cX6_ridersWithout 0 (.aload_n 0) 1 1 := ⟨by decide +kernel, rfl⟩
theorem eX6_ridersWithout_1 : Dc cX6_ridersWithout 1 (.getfield 61) 3 4 := ⟨by decide +kernel, rfl⟩
theorem eX6_ridersWithout_4 : Dc cX6_ridersWithout 4 (.iload_n 1) 1 5 := ⟨by decide +kernel, rfl⟩
theorem eX6_ridersWithout_5 : Dc cX6_ridersWithout 5 (.iaload) 1 6 := ⟨by decide +kernel, rfl⟩
theorem eX6_ridersWithout_6 : Dc cX6_ridersWithout 6 (.istore_n 2) 1 7 := ⟨by decide +kernel, rfl⟩
theorem eX6_ridersWithout_7 : Dc cX6_ridersWithout 7 (.aload_n 0) 1 8 := ⟨by decide +kernel, rfl⟩
theorem eX6_ridersWithout_8 : Dc cX6_ridersWithout 8 (.getfield 61) 3 11 := ⟨by decide +kernel, rfl⟩
theorem eX6_ridersWithout_11 : Dc cX6_ridersWithout 11 (.iload_n 1) 1 12 := ⟨by decide +kernel, rfl⟩
theorem eX6_ridersWithout_12 : Dc cX6_ridersWithout 12 (.iconst 0) 1 13 := ⟨by decide +kernel, rfl⟩
theorem eX6_ridersWithout_13 : Dc cX6_ridersWithout 13 (.iastore) 1 14 := ⟨by decide +kernel, rfl⟩
theorem eX6_ridersWithout_14 : Dc cX6_ridersWithout 14 (.aload_n 0) 1 15 := ⟨by decide +kernel, rfl⟩
theorem eX6_ridersWithout_15 : Dc cX6_ridersWithout 15 (.invokevirtual 289) 3 18 := ⟨by decide +kernel, rfl⟩
theorem eX6_ridersWithout_18 : Dc cX6_ridersWithout 18 (.aload_n 0) 1 19 := ⟨by decide +kernel, rfl⟩
theorem eX6_ridersWithout_19 : Dc cX6_ridersWithout 19 (.getfield 32) 3 22 := ⟨by decide +kernel, rfl⟩
theorem eX6_ridersWithout_22 : Dc cX6_ridersWithout 22 (.aload_n 0) 1 23 := ⟨by decide +kernel, rfl⟩
theorem eX6_ridersWithout_23 : Dc cX6_ridersWithout 23 (.getfield 65) 3 26 := ⟨by decide +kernel, rfl⟩
theorem eX6_ridersWithout_26 : Dc cX6_ridersWithout 26 (.invokevirtual 150) 3 29 := ⟨by decide +kernel, rfl⟩
theorem eX6_ridersWithout_29 : Dc cX6_ridersWithout 29 (.istore_n 3) 1 30 := ⟨by decide +kernel, rfl⟩
theorem eX6_ridersWithout_30 : Dc cX6_ridersWithout 30 (.aload_n 0) 1 31 := ⟨by decide +kernel, rfl⟩
theorem eX6_ridersWithout_31 : Dc cX6_ridersWithout 31 (.getfield 61) 3 34 := ⟨by decide +kernel, rfl⟩
theorem eX6_ridersWithout_34 : Dc cX6_ridersWithout 34 (.iload_n 1) 1 35 := ⟨by decide +kernel, rfl⟩
theorem eX6_ridersWithout_35 : Dc cX6_ridersWithout 35 (.iload_n 2) 1 36 := ⟨by decide +kernel, rfl⟩
theorem eX6_ridersWithout_36 : Dc cX6_ridersWithout 36 (.iastore) 1 37 := ⟨by decide +kernel, rfl⟩
theorem eX6_ridersWithout_37 : Dc cX6_ridersWithout 37 (.iload_n 3) 1 38 := ⟨by decide +kernel, rfl⟩
theorem eX6_ridersWithout_38 : Dc cX6_ridersWithout 38 (.ireturn) 1 39 := ⟨by decide +kernel, rfl⟩
def fX6_ridersWithout (c : SS) (p1 : Int32) : Option (Int32 × SS) := ald 6 (c.2 19) p1 (fun v1 => ckb 6 p1 (Option.bind (fX6_addDelays (sA c 19 (p1).toNatClampNeg (0 : Int32))) (fun q3 => Option.bind (fX4_ridersBy_27 q3) (fun q4 => ckb 6 p1 (some (q4, (sA q3 19 (p1).toNatClampNeg v1)))))))
set_option maxRecDepth 20000 in
theorem ctX6_ridersWithout (l : Launch) (G : tg_G) (A : Nat → Nat) (c : SS) (p1 : Int32) {z : Int32 × SS} (h : fX6_ridersWithout c p1 = some z) : Mt l G yX6_ridersWithout cX6_ridersWithout 4 (some .int) (tg_R 2 45) [.ref (A 0), .int p1] (wC G A c) (fun v w1 => v = some (.int z.1) ∧ w1 = wC G A z.2) := by
  refine Mt_of2 (own := "TramGod") (nm := "ridersWithout") rfl rfl rfl (Nat.le_of_ble_eq_true rfl) (lv := [(0, .ref (A 0)), (1, .int p1)]) rfl ?_
  unfold fX6_ridersWithout at h
  refine V_aload_n eX6_ridersWithout_0 0 rfl ?_
  refine V_get (v := .ref (A 26)) eX6_ridersWithout_1 inX6 0 rfl rfl 7 (Nat.le_of_ble_eq_true rfl) tw_214 rfl ?_
  refine V_iload_n eX6_ridersWithout_4 1 rfl ?_
  obtain ⟨v1, hi1, ev1, h⟩ := ald_some h
  refine V_ialdv eX6_ridersWithout_5 26 rfl hi1 ev1 ?_
  refine V_istore_n (lv' := [(2, .int v1), (0, .ref (A 0)), (1, .int p1)]) eX6_ridersWithout_6 (Nat.le_of_ble_eq_true rfl) rfl ?_
  refine V_aload_n eX6_ridersWithout_7 1 rfl ?_
  refine V_get (v := .ref (A 26)) eX6_ridersWithout_8 inX6 0 rfl rfl 7 (Nat.le_of_ble_eq_true rfl) tw_214 rfl ?_
  refine V_iload_n eX6_ridersWithout_11 2 rfl ?_
  refine V_iconst (v := (0 : Int32)) eX6_ridersWithout_12 rfl ?_
  obtain ⟨hi2, h⟩ := ckb_some h
  refine V_iast (w' := wC G A (sA c 19 (p1).toNatClampNeg (0 : Int32))) eX6_ridersWithout_13 26 rfl hi2 rfl ?_
  refine V_aload_n eX6_ridersWithout_14 1 rfl ?_
  obtain ⟨q3, hc3, h⟩ := Option.bind_eq_some_iff.mp h
  refine V_callVv (rest := []) eX6_ridersWithout_15 (ctX6_addDelays l G A (sA c 19 (p1).toNatClampNeg (0 : Int32)) hc3) tc_361 tw_358 tw_1 tw_360 ts_4 0 rfl rfl hdX6_addDelays rfl ⟨Nat.le_of_ble_eq_true rfl, Nat.le_of_ble_eq_true rfl⟩ rfl (Nat.le_of_ble_eq_true rfl) ⟨Nat.zero_le _, Nat.zero_le _⟩ ?_
  refine V_aload_n eX6_ridersWithout_18 1 rfl ?_
  refine V_get (v := .ref (A 11)) eX6_ridersWithout_19 inX6 0 rfl rfl 3 (Nat.le_of_ble_eq_true rfl) tw_210 rfl ?_
  refine V_aload_n eX6_ridersWithout_22 1 rfl ?_
  refine V_get (v := .ref (A 27)) eX6_ridersWithout_23 inX6 0 rfl rfl 8 (Nat.le_of_ble_eq_true rfl) tw_215 rfl ?_
  obtain ⟨q4, hc4, h⟩ := Option.bind_eq_some_iff.mp h
  refine V_callVi (rest := []) eX6_ridersWithout_26 (ctX4_ridersBy_27 l G A q3 hc4) tc_365 tw_362 tw_4 tw_363 tw_364 11 rfl rfl hdX4_ridersBy rfl ⟨Nat.le_of_ble_eq_true rfl, Nat.le_of_ble_eq_true rfl⟩ rfl (Nat.le_of_ble_eq_true rfl) ⟨Nat.zero_le _, Nat.zero_le _⟩ ?_
  refine V_istore_n (lv' := [(3, .int q4), (2, .int v1), (0, .ref (A 0)), (1, .int p1)]) eX6_ridersWithout_29 (Nat.le_of_ble_eq_true rfl) rfl ?_
  refine V_aload_n eX6_ridersWithout_30 2 rfl ?_
  refine V_get (v := .ref (A 26)) eX6_ridersWithout_31 inX6 0 rfl rfl 7 (Nat.le_of_ble_eq_true rfl) tw_214 rfl ?_
  refine V_iload_n eX6_ridersWithout_34 3 rfl ?_
  refine V_iload_n eX6_ridersWithout_35 1 rfl ?_
  obtain ⟨hi5, h⟩ := ckb_some h
  refine V_iast (w' := wC G A (sA q3 19 (p1).toNatClampNeg v1)) eX6_ridersWithout_36 26 rfl hi5 rfl ?_
  refine V_iload_n eX6_ridersWithout_37 0 rfl ?_
  obtain rfl := Option.some.inj h
  exact V_ret eX6_ridersWithout_38 rfl ⟨rfl, rfl⟩
theorem hdX6_vain : yX6_vain.cls ≠ "java/lang/invoke/MethodHandle" ∧ yX6_vain.cls ≠ "java/lang/invoke/VarHandle" ∧ (parseMethodDescriptor yX6_vain.desc).map (fun d => d.parameters.length) = some 0 := by decide +kernel
theorem eX6_vain_0 : Dc cX6_vain 0 (.aload_n 0) 1 1 := ⟨by decide +kernel, rfl⟩
theorem eX6_vain_1 : Dc cX6_vain 1 (.invokevirtual 147) 3 4 := ⟨by decide +kernel, rfl⟩
theorem eX6_vain_4 : Dc cX6_vain 4 (.ifCond .ne 6) 3 7 := ⟨by decide +kernel, rfl⟩
theorem eX6_vain_7 : Dc cX6_vain 7 (.bipush (-5)) 2 9 := ⟨by decide +kernel, rfl⟩
theorem eX6_vain_9 : Dc cX6_vain 9 (.ireturn) 1 10 := ⟨by decide +kernel, rfl⟩
theorem eX6_vain_10 : Dc cX6_vain 10 (.aload_n 0) 1 11 := ⟨by decide +kernel, rfl⟩
theorem eX6_vain_11 : Dc cX6_vain 11 (.getfield 32) 3 14 := ⟨by decide +kernel, rfl⟩
theorem eX6_vain_14 : Dc cX6_vain 14 (.aload_n 0) 1 15 := ⟨by decide +kernel, rfl⟩
theorem eX6_vain_15 : Dc cX6_vain 15 (.getfield 65) 3 18 := ⟨by decide +kernel, rfl⟩
theorem eX6_vain_18 : Dc cX6_vain 18 (.invokevirtual 150) 3 21 := ⟨by decide +kernel, rfl⟩
theorem eX6_vain_21 : Dc cX6_vain 21 (.istore_n 1) 1 22 := ⟨by decide +kernel, rfl⟩
theorem eX6_vain_22 : Dc cX6_vain 22 (.iconst 0) 1 23 := ⟨by decide +kernel, rfl⟩
theorem eX6_vain_23 : Dc cX6_vain 23 (.istore_n 2) 1 24 := ⟨by decide +kernel, rfl⟩
theorem eX6_vain_24 : Dc cX6_vain 24 (.iload_n 2) 1 25 := ⟨by decide +kernel, rfl⟩
theorem eX6_vain_25 : Dc cX6_vain 25 (.aload_n 0) 1 26 := ⟨by decide +kernel, rfl⟩
theorem eX6_vain_26 : Dc cX6_vain 26 (.getfield 19) 3 29 := ⟨by decide +kernel, rfl⟩
theorem eX6_vain_29 : Dc cX6_vain 29 (.getfield 84) 3 32 := ⟨by decide +kernel, rfl⟩
theorem eX6_vain_32 : Dc cX6_vain 32 (.if_icmp .ge 29) 3 35 := ⟨by decide +kernel, rfl⟩
theorem eX6_vain_35 : Dc cX6_vain 35 (.aload_n 0) 1 36 := ⟨by decide +kernel, rfl⟩
theorem eX6_vain_36 : Dc cX6_vain 36 (.getfield 61) 3 39 := ⟨by decide +kernel, rfl⟩
theorem eX6_vain_39 : Dc cX6_vain 39 (.iload_n 2) 1 40 := ⟨by decide +kernel, rfl⟩
theorem eX6_vain_40 : Dc cX6_vain 40 (.iaload) 1 41 := ⟨by decide +kernel, rfl⟩
theorem eX6_vain_41 : Dc cX6_vain 41 (.ifCond .le 14) 3 44 := ⟨by decide +kernel, rfl⟩
theorem eX6_vain_44 : Dc cX6_vain 44 (.aload_n 0) 1 45 := ⟨by decide +kernel, rfl⟩
theorem eX6_vain_45 : Dc cX6_vain 45 (.iload_n 2) 1 46 := ⟨by decide +kernel, rfl⟩
theorem eX6_vain_46 : Dc cX6_vain 46 (.invokevirtual 163) 3 49 := ⟨by decide +kernel, rfl⟩
theorem eX6_vain_49 : Dc cX6_vain 49 (.iload_n 1) 1 50 := ⟨by decide +kernel, rfl⟩
theorem eX6_vain_50 : Dc cX6_vain 50 (.if_icmp .ne 5) 3 53 := ⟨by decide +kernel, rfl⟩
theorem eX6_vain_53 : Dc cX6_vain 53 (.iload_n 2) 1 54 := ⟨by decide +kernel, rfl⟩
theorem eX6_vain_54 : Dc cX6_vain 54 (.ireturn) 1 55 := ⟨by decide +kernel, rfl⟩
theorem eX6_vain_55 : Dc cX6_vain 55 (.iinc 2 1) 3 58 := ⟨by decide +kernel, rfl⟩
theorem eX6_vain_58 : Dc cX6_vain 58 (.goto (-34)) 3 61 := ⟨by decide +kernel, rfl⟩
theorem eX6_vain_61 : Dc cX6_vain 61 (.bipush (-6)) 2 63 := ⟨by decide +kernel, rfl⟩
theorem eX6_vain_63 : Dc cX6_vain 63 (.ireturn) 1 64 := ⟨by decide +kernel, rfl⟩
def fX6_vain_L24  (a1 : Int32) : Nat → Int32 → SS → Option (Int32 × SS)
  | 0, _, _ => none
  | n + 1, a2, c => if (c.1 1) ≤ a2 then some ((-6 : Int32), c) else ald 6 (c.2 19) a2 (fun v5 => jn (fun (c6 : SS) => fX6_vain_L24 a1 n (a2 + (1 : Int32)) c6) (fun j55 => if v5 ≤ (0 : Int32) then j55 c else Option.bind (fX6_ridersWithout c a2) (fun q8 => if q8.1 = a1 then some (a2, q8.2) else j55 q8.2)))
def fX6_vain (c : SS)  : Option (Int32 × SS) := Option.bind (fX6_readGoodHold c) (fun q1 => if q1.1 = (0 : Int32) then some ((-5 : Int32), q1.2) else Option.bind (fX4_ridersBy_27 q1.2) (fun q3 => fX6_vain_L24 q3 fu (0 : Int32) q1.2))
set_option maxRecDepth 20000 in
theorem ctX6_vain_L24 (l : Launch) (G : tg_G) (A : Nat → Nat)  (a1 : Int32) {z : Int32 × SS}  : ∀ (n : Nat) (a2 : Int32) (c : SS), fX6_vain_L24 a1 n a2 c = some z → V l G (tg_Zm G (fun v w1 => v = some (.int z.1) ∧ w1 = wC G A z.2) 0 0) tg_E0 (tg_R 4 87) "TramGod" "vain" cX6_vain 3 (some .int) 24 [(0, .ref (A 0)), (1, .int a1), (2, .int a2)] [] (wC G A c) 0 0 := by
  intro n
  induction n with
  | zero => intro a2 c h; exact absurd h (by simp [fX6_vain_L24])
  | succ n ih =>
    intro a2 c h
    unfold fX6_vain_L24 at h
    refine V_iload_n eX6_vain_24 2 rfl ?_
    refine V_aload_n eX6_vain_25 0 rfl ?_
    refine V_get (v := .ref (A 3)) eX6_vain_26 inX6 0 rfl rfl 1 (Nat.le_of_ble_eq_true rfl) tw_208 rfl ?_
    refine V_get (v := .int (c.1 1)) eX6_vain_29 inX5 3 rfl rfl 0 (Nat.le_of_ble_eq_true rfl) tw_44 rfl ?_
    refine V_icmp_ge (tgt := 61) eX6_vain_32 rfl (fun hb4 => ?_) (fun hb4 => ?_)
    · replace h := (if_pos hb4).symm.trans h
      refine V_bipush (v := (-6 : Int32)) eX6_vain_61 rfl ?_
      obtain rfl := Option.some.inj h
      exact V_ret eX6_vain_63 rfl ⟨rfl, rfl⟩
    · replace h := (if_neg hb4).symm.trans h
      refine V_aload_n eX6_vain_35 0 rfl ?_
      refine V_get (v := .ref (A 26)) eX6_vain_36 inX6 0 rfl rfl 7 (Nat.le_of_ble_eq_true rfl) tw_214 rfl ?_
      refine V_iload_n eX6_vain_39 2 rfl ?_
      obtain ⟨v5, hi5, ev5, h⟩ := ald_some h
      refine V_ialdv eX6_vain_40 26 rfl hi5 ev5 ?_
      refine jn_elim h (fun j => ∀ (c6 : SS), j c6 = some z → V l G (tg_Zm G (fun v w1 => v = some (.int z.1) ∧ w1 = wC G A z.2) 0 0) tg_E0 (tg_R 4 87) "TramGod" "vain" cX6_vain 3 (some .int) 55 [(0, .ref (A 0)), (1, .int a1), (2, .int a2)] [] (wC G A c6) 0 0) ?_ (fun j55 hj55 h => ?_)
      · intro c6 h
        refine V_iinc (v := (a2 + (1 : Int32))) (lv' := [(2, .int (a2 + (1 : Int32))), (0, .ref (A 0)), (1, .int a1)]) eX6_vain_55 2 rfl rfl (Nat.le_of_ble_eq_true rfl) rfl ?_
        refine V_goto (tgt := 24) eX6_vain_58 rfl ?_
        refine V_lv (lv' := [(0, .ref (A 0)), (1, .int a1), (2, .int (a2 + (1 : Int32)))]) [1, 2, 0] rfl ?_
        exact ih (a2 + (1 : Int32)) c6 h
      refine V_if_le (tgt := 55) eX6_vain_41 rfl (fun hb7 => ?_) (fun hb7 => ?_)
      · replace h := (if_pos hb7).symm.trans h
        exact hj55 c h
      · replace h := (if_neg hb7).symm.trans h
        refine V_aload_n eX6_vain_44 0 rfl ?_
        refine V_iload_n eX6_vain_45 2 rfl ?_
        obtain ⟨q8, hc8, h⟩ := Option.bind_eq_some_iff.mp h
        refine V_callVi (rest := []) eX6_vain_46 (ctX6_ridersWithout l G A c a2 hc8) tc_398 tw_395 tw_1 tw_397 ts_5 0 rfl rfl hdX6_ridersWithout rfl ⟨Nat.le_of_ble_eq_true rfl, Nat.le_of_ble_eq_true rfl⟩ rfl (Nat.le_of_ble_eq_true rfl) ⟨Nat.zero_le _, Nat.zero_le _⟩ ?_
        refine V_iload_n eX6_vain_49 1 rfl ?_
        refine V_icmp_ne (tgt := 55) eX6_vain_50 rfl (fun hb9 => ?_) (fun hb9 => ?_)
        · replace h := (if_neg hb9).symm.trans h
          exact hj55 q8.2 h
        · replace h := (if_pos hb9).symm.trans h
          refine V_iload_n eX6_vain_53 2 rfl ?_
          obtain rfl := Option.some.inj h
          exact V_ret eX6_vain_54 rfl ⟨rfl, rfl⟩
set_option maxRecDepth 20000 in
theorem ctX6_vain (l : Launch) (G : tg_G) (A : Nat → Nat) (c : SS)  {z : Int32 × SS} (h : fX6_vain c  = some z) : Mt l G yX6_vain cX6_vain 3 (some .int) (tg_R 4 87) [.ref (A 0)] (wC G A c) (fun v w1 => v = some (.int z.1) ∧ w1 = wC G A z.2) := by
  refine Mt_of2 (own := "TramGod") (nm := "vain") rfl rfl rfl (Nat.le_of_ble_eq_true rfl) (lv := [(0, .ref (A 0))]) rfl ?_
  unfold fX6_vain at h
  refine V_aload_n eX6_vain_0 0 rfl ?_
  obtain ⟨q1, hc1, h⟩ := Option.bind_eq_some_iff.mp h
  refine V_callVi (rest := []) eX6_vain_1 (ctX6_readGoodHold l G A c hc1) tc_348 tw_345 tw_1 tw_347 ts_3 0 rfl rfl hdX6_readGoodHold rfl ⟨Nat.le_of_ble_eq_true rfl, Nat.le_of_ble_eq_true rfl⟩ rfl (Nat.le_of_ble_eq_true rfl) ⟨Nat.zero_le _, Nat.zero_le _⟩ ?_
  refine V_if_ne (tgt := 10) eX6_vain_4 rfl (fun hb2 => ?_) (fun hb2 => ?_)
  · replace h := (if_neg hb2).symm.trans h
    refine V_aload_n eX6_vain_10 0 rfl ?_
    refine V_get (v := .ref (A 11)) eX6_vain_11 inX6 0 rfl rfl 3 (Nat.le_of_ble_eq_true rfl) tw_210 rfl ?_
    refine V_aload_n eX6_vain_14 0 rfl ?_
    refine V_get (v := .ref (A 27)) eX6_vain_15 inX6 0 rfl rfl 8 (Nat.le_of_ble_eq_true rfl) tw_215 rfl ?_
    obtain ⟨q3, hc3, h⟩ := Option.bind_eq_some_iff.mp h
    refine V_callVi (rest := []) eX6_vain_18 (ctX4_ridersBy_27 l G A q1.2 hc3) tc_365 tw_362 tw_4 tw_363 tw_364 11 rfl rfl hdX4_ridersBy rfl ⟨Nat.le_of_ble_eq_true rfl, Nat.le_of_ble_eq_true rfl⟩ rfl (Nat.le_of_ble_eq_true rfl) ⟨Nat.zero_le _, Nat.zero_le _⟩ ?_
    refine V_istore_n (lv' := [(1, .int q3), (0, .ref (A 0))]) eX6_vain_21 (Nat.le_of_ble_eq_true rfl) rfl ?_
    refine V_iconst (v := (0 : Int32)) eX6_vain_22 rfl ?_
    refine V_istore_n (lv' := [(2, .int (0 : Int32)), (1, .int q3), (0, .ref (A 0))]) eX6_vain_23 (Nat.le_of_ble_eq_true rfl) rfl ?_
    refine V_lv (lv' := [(0, .ref (A 0)), (1, .int q3), (2, .int (0 : Int32))]) [2, 1, 0] rfl ?_
    refine ctX6_vain_L24 l G A q3 fu (0 : Int32) q1.2 h
  · replace h := (if_pos hb2).symm.trans h
    refine V_bipush (v := (-5 : Int32)) eX6_vain_7 rfl ?_
    obtain rfl := Option.some.inj h
    exact V_ret eX6_vain_9 rfl ⟨rfl, rfl⟩
theorem hdX6_isStopOrAll : yX6_isStopOrAll.cls ≠ "java/lang/invoke/MethodHandle" ∧ yX6_isStopOrAll.cls ≠ "java/lang/invoke/VarHandle" ∧ (parseMethodDescriptor yX6_isStopOrAll.desc).map (fun d => d.parameters.length) = some 1 := by decide +kernel
theorem eX6_isStopOrAll_0 : Dc cX6_isStopOrAll 0 (.iload_n 1) 1 1 := ⟨by decide +kernel, rfl⟩
theorem eX6_isStopOrAll_1 : Dc cX6_isStopOrAll 1 (.iconst (-1)) 1 2 := ⟨by decide +kernel, rfl⟩
theorem eX6_isStopOrAll_2 : Dc cX6_isStopOrAll 2 (.if_icmp .eq 14) 3 5 := ⟨by decide +kernel, rfl⟩
theorem eX6_isStopOrAll_5 : Dc cX6_isStopOrAll 5 (.aload_n 0) 1 6 := ⟨by decide +kernel, rfl⟩
theorem eX6_isStopOrAll_6 : Dc cX6_isStopOrAll 6 (.getfield 19) 3 9 := ⟨by decide +kernel, rfl⟩
theorem eX6_isStopOrAll_9 : Dc cX6_isStopOrAll 9 (.iload_n 1) 1 10 := ⟨by decide +kernel, rfl⟩
theorem eX6_isStopOrAll_10 : Dc cX6_isStopOrAll 10 (.invokevirtual 91) 3 13 := ⟨by decide +kernel, rfl⟩
theorem eX6_isStopOrAll_13 : Dc cX6_isStopOrAll 13 (.ifCond .eq 7) 3 16 := ⟨by decide +kernel, rfl⟩
theorem eX6_isStopOrAll_16 : Dc cX6_isStopOrAll 16 (.iconst 1) 1 17 := ⟨by decide +kernel, rfl⟩
theorem eX6_isStopOrAll_17 : Dc cX6_isStopOrAll 17 (.goto 4) 3 20 := ⟨by decide +kernel, rfl⟩
theorem eX6_isStopOrAll_20 : Dc cX6_isStopOrAll 20 (.iconst 0) 1 21 := ⟨by decide +kernel, rfl⟩
theorem eX6_isStopOrAll_21 : Dc cX6_isStopOrAll 21 (.ireturn) 1 22 := ⟨by decide +kernel, rfl⟩
def fX6_isStopOrAll (c : SS) (p1 : Int32) : Int32 := if p1 = (-1 : Int32) then (1 : Int32) else if (fX5_isStop c p1) = (0 : Int32) then (0 : Int32) else (1 : Int32)
set_option maxRecDepth 20000 in
theorem ctX6_isStopOrAll (l : Launch) (G : tg_G) (A : Nat → Nat) (c : SS) (p1 : Int32) {z : Int32} (h : fX6_isStopOrAll c p1 = z) : Mt l G yX6_isStopOrAll cX6_isStopOrAll 2 (some .boolean) (tg_R 2 43) [.ref (A 0), .int p1] (wC G A c) (fun v w1 => v = some (.int z) ∧ w1 = wC G A c) := by
  refine Mt_of2 (own := "TramGod") (nm := "isStopOrAll") rfl rfl rfl (Nat.le_of_ble_eq_true rfl) (lv := [(0, .ref (A 0)), (1, .int p1)]) rfl ?_
  unfold fX6_isStopOrAll at h
  refine V_iload_n eX6_isStopOrAll_0 1 rfl ?_
  refine V_iconst (v := (-1 : Int32)) eX6_isStopOrAll_1 rfl ?_
  refine V_icmp_eq (tgt := 16) eX6_isStopOrAll_2 rfl (fun hb1 => ?_) (fun hb1 => ?_)
  · replace h := (if_pos hb1).symm.trans h
    refine V_iconst (v := (1 : Int32)) eX6_isStopOrAll_16 rfl ?_
    refine V_goto (tgt := 21) eX6_isStopOrAll_17 rfl ?_
    subst h
    exact V_zret eX6_isStopOrAll_21 rfl rfl ⟨rfl, rfl⟩
  · replace h := (if_neg hb1).symm.trans h
    refine V_aload_n eX6_isStopOrAll_5 0 rfl ?_
    refine V_get (v := .ref (A 3)) eX6_isStopOrAll_6 inX6 0 rfl rfl 1 (Nat.le_of_ble_eq_true rfl) tw_208 rfl ?_
    refine V_iload_n eX6_isStopOrAll_9 1 rfl ?_
    refine V_callVi (rest := []) eX6_isStopOrAll_10 (ctX5_isStop l G A c p1 rfl) tc_289 tw_286 tw_3 tw_287 tw_288 3 rfl rfl hdX5_isStop rfl ⟨Nat.le_of_ble_eq_true rfl, Nat.le_of_ble_eq_true rfl⟩ rfl (Nat.le_of_ble_eq_true rfl) ⟨Nat.zero_le _, Nat.zero_le _⟩ ?_
    refine V_if_eq (tgt := 20) eX6_isStopOrAll_13 rfl (fun hb2 => ?_) (fun hb2 => ?_)
    · replace h := (if_pos hb2).symm.trans h
      refine V_iconst (v := (0 : Int32)) eX6_isStopOrAll_20 rfl ?_
      subst h
      exact V_zret eX6_isStopOrAll_21 rfl rfl ⟨rfl, rfl⟩
    · replace h := (if_neg hb2).symm.trans h
      refine V_iconst (v := (1 : Int32)) eX6_isStopOrAll_16 rfl ?_
      refine V_goto (tgt := 21) eX6_isStopOrAll_17 rfl ?_
      subst h
      exact V_zret eX6_isStopOrAll_21 rfl rfl ⟨rfl, rfl⟩
theorem bzX6_isStopOrAll (c : SS) (p1 : Int32) : narrow .boolean (.int (fX6_isStopOrAll c p1)) = .int (fX6_isStopOrAll c p1) := by
  unfold fX6_isStopOrAll
  repeat' split
  all_goals first | rfl | exact (bzX5_isStop c p1)
theorem hdX2_clearGain : yX2_clearGain.cls ≠ "java/lang/invoke/MethodHandle" ∧ yX2_clearGain.cls ≠ "java/lang/invoke/VarHandle" ∧ (parseMethodDescriptor yX2_clearGain.desc).map (fun d => d.parameters.length) = some 0 := by decide +kernel
theorem eX2_clearGain_0 : Dc cX2_clearGain 0 (.iconst 0) 1 1 := ⟨by decide +kernel, rfl⟩
theorem eX2_clearGain_1 : Dc cX2_clearGain 1 (.istore_n 1) 1 2 := ⟨by decide +kernel, rfl⟩
theorem eX2_clearGain_2 : Dc cX2_clearGain 2 (.iload_n 1) 1 3 := ⟨by decide +kernel, rfl⟩
theorem eX2_clearGain_3 : Dc cX2_clearGain 3 (.aload_n 0) 1 4 := ⟨by decide +kernel, rfl⟩
theorem eX2_clearGain_4 : Dc cX2_clearGain 4 (.getfield 9) 3 7 := ⟨by decide +kernel, rfl⟩
theorem eX2_clearGain_7 : Dc cX2_clearGain 7 (.arraylength) 1 8 := ⟨by decide +kernel, rfl⟩
theorem eX2_clearGain_8 : Dc cX2_clearGain 8 (.if_icmp .ge 16) 3 11 := ⟨by decide +kernel, rfl⟩
theorem eX2_clearGain_11 : Dc cX2_clearGain 11 (.aload_n 0) 1 12 := ⟨by decide +kernel, rfl⟩
theorem eX2_clearGain_12 : Dc cX2_clearGain 12 (.getfield 9) 3 15 := ⟨by decide +kernel, rfl⟩
theorem eX2_clearGain_15 : Dc cX2_clearGain 15 (.iload_n 1) 1 16 := ⟨by decide +kernel, rfl⟩
theorem eX2_clearGain_16 : Dc cX2_clearGain 16 (.iconst 0) 1 17 := ⟨by decide +kernel, rfl⟩
theorem eX2_clearGain_17 : Dc cX2_clearGain 17 (.iastore) 1 18 := ⟨by decide +kernel, rfl⟩
theorem eX2_clearGain_18 : Dc cX2_clearGain 18 (.iinc 1 1) 3 21 := ⟨by decide +kernel, rfl⟩
theorem eX2_clearGain_21 : Dc cX2_clearGain 21 (.goto (-19)) 3 24 := ⟨by decide +kernel, rfl⟩
theorem eX2_clearGain_24 : Dc cX2_clearGain 24 (.return_) 1 25 := ⟨by decide +kernel, rfl⟩
def fX2_clearGain_L2   : Nat → Int32 → SS → Option (SS)
  | 0, _, _ => none
  | n + 1, a1, c => if (66 : Int32) ≤ a1 then some c else ckb 66 a1 (fX2_clearGain_L2  n (a1 + (1 : Int32)) (sA c 9 (a1).toNatClampNeg (0 : Int32)))
def fX2_clearGain (c : SS)  : Option (SS) := fX2_clearGain_L2  fu (0 : Int32) c
set_option maxRecDepth 20000 in
theorem ctX2_clearGain_L2 (l : Launch) (G : tg_G) (A : Nat → Nat)   {z : SS}  : ∀ (n : Nat) (a1 : Int32) (c : SS), fX2_clearGain_L2  n a1 c = some z → V l G (tg_Zm G (fun v w1 => v = none ∧ w1 = wC G A z) 0 0) tg_E0 (tg_R 0 0) "TramGod$Planner" "clearGain" cX2_clearGain 2 none 2 [(0, .ref (A 13)), (1, .int a1)] [] (wC G A c) 0 0 := by
  intro n
  induction n with
  | zero => intro a1 c h; exact absurd h (by simp [fX2_clearGain_L2])
  | succ n ih =>
    intro a1 c h
    unfold fX2_clearGain_L2 at h
    refine V_iload_n eX2_clearGain_2 1 rfl ?_
    refine V_aload_n eX2_clearGain_3 0 rfl ?_
    refine V_get (v := .ref (A 14)) eX2_clearGain_4 inX2 13 rfl rfl 2 (Nat.le_of_ble_eq_true rfl) tw_135 rfl ?_
    refine V_alen (v := (66 : Int32)) eX2_clearGain_7 14 0 rfl rfl rfl ?_
    refine V_icmp_ge (tgt := 24) eX2_clearGain_8 rfl (fun hb1 => ?_) (fun hb1 => ?_)
    · replace h := (if_pos hb1).symm.trans h
      obtain rfl := Option.some.inj h
      exact V_vret eX2_clearGain_24 rfl ⟨rfl, rfl⟩
    · replace h := (if_neg hb1).symm.trans h
      refine V_aload_n eX2_clearGain_11 0 rfl ?_
      refine V_get (v := .ref (A 14)) eX2_clearGain_12 inX2 13 rfl rfl 2 (Nat.le_of_ble_eq_true rfl) tw_135 rfl ?_
      refine V_iload_n eX2_clearGain_15 1 rfl ?_
      refine V_iconst (v := (0 : Int32)) eX2_clearGain_16 rfl ?_
      obtain ⟨hi2, h⟩ := ckb_some h
      refine V_iast (w' := wC G A (sA c 9 (a1).toNatClampNeg (0 : Int32))) eX2_clearGain_17 14 rfl hi2 rfl ?_
      refine V_iinc (v := (a1 + (1 : Int32))) (lv' := [(1, .int (a1 + (1 : Int32))), (0, .ref (A 13))]) eX2_clearGain_18 1 rfl rfl (Nat.le_of_ble_eq_true rfl) rfl ?_
      refine V_goto (tgt := 2) eX2_clearGain_21 rfl ?_
      refine V_lv (lv' := [(0, .ref (A 13)), (1, .int (a1 + (1 : Int32)))]) [1, 0] rfl ?_
      exact ih (a1 + (1 : Int32)) (sA c 9 (a1).toNatClampNeg (0 : Int32)) h
set_option maxRecDepth 20000 in
theorem ctX2_clearGain (l : Launch) (G : tg_G) (A : Nat → Nat) (c : SS)  {z : SS} (h : fX2_clearGain c  = some z) : Mt l G yX2_clearGain cX2_clearGain 2 none (tg_R 0 0) [.ref (A 13)] (wC G A c) (fun v w1 => v = none ∧ w1 = wC G A z) := by
  refine Mt_of2 (own := "TramGod$Planner") (nm := "clearGain") rfl rfl rfl (Nat.le_of_ble_eq_true rfl) (lv := [(0, .ref (A 13))]) rfl ?_
  unfold fX2_clearGain at h
  refine V_iconst (v := (0 : Int32)) eX2_clearGain_0 rfl ?_
  refine V_istore_n (lv' := [(1, .int (0 : Int32)), (0, .ref (A 13))]) eX2_clearGain_1 (Nat.le_of_ble_eq_true rfl) rfl ?_
  refine V_lv (lv' := [(0, .ref (A 13)), (1, .int (0 : Int32))]) [1, 0] rfl ?_
  refine ctX2_clearGain_L2 l G A fu (0 : Int32) c h
theorem hdX2_wantGood : yX2_wantGood.cls ≠ "java/lang/invoke/MethodHandle" ∧ yX2_wantGood.cls ≠ "java/lang/invoke/VarHandle" ∧ (parseMethodDescriptor yX2_wantGood.desc).map (fun d => d.parameters.length) = some 2 := by decide +kernel
theorem eX2_wantGood_0 : Dc cX2_wantGood 0 (.aload_n 0) 1 1 := ⟨by decide +kernel, rfl⟩
theorem eX2_wantGood_1 : Dc cX2_wantGood 1 (.invokevirtual 32) 3 4 := ⟨by decide +kernel, rfl⟩
theorem eX2_wantGood_4 : Dc cX2_wantGood 4 (.iconst 0) 1 5 := ⟨by decide +kernel, rfl⟩
theorem eX2_wantGood_5 : Dc cX2_wantGood 5 (.istore_n 3) 1 6 := ⟨by decide +kernel, rfl⟩
theorem eX2_wantGood_6 : Dc cX2_wantGood 6 (.iload_n 3) 1 7 := ⟨by decide +kernel, rfl⟩
theorem eX2_wantGood_7 : Dc cX2_wantGood 7 (.bipush 8) 2 9 := ⟨by decide +kernel, rfl⟩
theorem eX2_wantGood_9 : Dc cX2_wantGood 9 (.if_icmp .ge 102) 3 12 := ⟨by decide +kernel, rfl⟩
theorem eX2_wantGood_12 : Dc cX2_wantGood 12 (.iload_n 1) 1 13 := ⟨by decide +kernel, rfl⟩
theorem eX2_wantGood_13 : Dc cX2_wantGood 13 (.iload_n 3) 1 14 := ⟨by decide +kernel, rfl⟩
theorem eX2_wantGood_14 : Dc cX2_wantGood 14 (.ishr) 1 15 := ⟨by decide +kernel, rfl⟩
theorem eX2_wantGood_15 : Dc cX2_wantGood 15 (.iconst 1) 1 16 := ⟨by decide +kernel, rfl⟩
theorem eX2_wantGood_16 : Dc cX2_wantGood 16 (.iand) 1 17 := ⟨by decide +kernel, rfl⟩
theorem eX2_wantGood_17 : Dc cX2_wantGood 17 (.iconst 1) 1 18 := ⟨by decide +kernel, rfl⟩
theorem eX2_wantGood_18 : Dc cX2_wantGood 18 (.if_icmp .ne 87) 3 21 := ⟨by decide +kernel, rfl⟩
theorem eX2_wantGood_21 : Dc cX2_wantGood 21 (.aload_n 0) 1 22 := ⟨by decide +kernel, rfl⟩
theorem eX2_wantGood_22 : Dc cX2_wantGood 22 (.getfield 24) 3 25 := ⟨by decide +kernel, rfl⟩
theorem eX2_wantGood_25 : Dc cX2_wantGood 25 (.getfield 35) 3 28 := ⟨by decide +kernel, rfl⟩
theorem eX2_wantGood_28 : Dc cX2_wantGood 28 (.iload_n 3) 1 29 := ⟨by decide +kernel, rfl⟩
theorem eX2_wantGood_29 : Dc cX2_wantGood 29 (.iaload) 1 30 := ⟨by decide +kernel, rfl⟩
theorem eX2_wantGood_30 : Dc cX2_wantGood 30 (.bipush 11) 2 32 := ⟨by decide +kernel, rfl⟩
theorem eX2_wantGood_32 : Dc cX2_wantGood 32 (.imul) 1 33 := ⟨by decide +kernel, rfl⟩
theorem eX2_wantGood_33 : Dc cX2_wantGood 33 (.istore 4) 2 35 := ⟨by decide +kernel, rfl⟩
theorem eX2_wantGood_35 : Dc cX2_wantGood 35 (.iconst 0) 1 36 := ⟨by decide +kernel, rfl⟩
theorem eX2_wantGood_36 : Dc cX2_wantGood 36 (.istore 5) 2 38 := ⟨by decide +kernel, rfl⟩
theorem eX2_wantGood_38 : Dc cX2_wantGood 38 (.iload 5) 2 40 := ⟨by decide +kernel, rfl⟩
theorem eX2_wantGood_40 : Dc cX2_wantGood 40 (.iload_n 2) 1 41 := ⟨by decide +kernel, rfl⟩
theorem eX2_wantGood_41 : Dc cX2_wantGood 41 (.if_icmp .gt 64) 3 44 := ⟨by decide +kernel, rfl⟩
theorem eX2_wantGood_44 : Dc cX2_wantGood 44 (.iload 5) 2 46 := ⟨by decide +kernel, rfl⟩
theorem eX2_wantGood_46 : Dc cX2_wantGood 46 (.bipush 11) 2 48 := ⟨by decide +kernel, rfl⟩
theorem eX2_wantGood_48 : Dc cX2_wantGood 48 (.if_icmp .ge 57) 3 51 := ⟨by decide +kernel, rfl⟩
theorem eX2_wantGood_51 : Dc cX2_wantGood 51 (.aload_n 0) 1 52 := ⟨by decide +kernel, rfl⟩
theorem eX2_wantGood_52 : Dc cX2_wantGood 52 (.getfield 9) 3 55 := ⟨by decide +kernel, rfl⟩
theorem eX2_wantGood_55 : Dc cX2_wantGood 55 (.iload 4) 2 57 := ⟨by decide +kernel, rfl⟩
theorem eX2_wantGood_57 : Dc cX2_wantGood 57 (.iload 5) 2 59 := ⟨by decide +kernel, rfl⟩
theorem eX2_wantGood_59 : Dc cX2_wantGood 59 (.iadd) 1 60 := ⟨by decide +kernel, rfl⟩
theorem eX2_wantGood_60 : Dc cX2_wantGood 60 (.dup2) 1 61 := ⟨by decide +kernel, rfl⟩
theorem eX2_wantGood_61 : Dc cX2_wantGood 61 (.iaload) 1 62 := ⟨by decide +kernel, rfl⟩
theorem eX2_wantGood_62 : Dc cX2_wantGood 62 (.aload_n 0) 1 63 := ⟨by decide +kernel, rfl⟩
theorem eX2_wantGood_63 : Dc cX2_wantGood 63 (.getfield 28) 3 66 := ⟨by decide +kernel, rfl⟩
theorem eX2_wantGood_66 : Dc cX2_wantGood 66 (.getfield 40) 3 69 := ⟨by decide +kernel, rfl⟩
theorem eX2_wantGood_69 : Dc cX2_wantGood 69 (.iload_n 3) 1 70 := ⟨by decide +kernel, rfl⟩
theorem eX2_wantGood_70 : Dc cX2_wantGood 70 (.iaload) 1 71 := ⟨by decide +kernel, rfl⟩
theorem eX2_wantGood_71 : Dc cX2_wantGood 71 (.iload 5) 2 73 := ⟨by decide +kernel, rfl⟩
theorem eX2_wantGood_73 : Dc cX2_wantGood 73 (.if_icmp .gt 15) 3 76 := ⟨by decide +kernel, rfl⟩
theorem eX2_wantGood_76 : Dc cX2_wantGood 76 (.aload_n 0) 1 77 := ⟨by decide +kernel, rfl⟩
theorem eX2_wantGood_77 : Dc cX2_wantGood 77 (.getfield 24) 3 80 := ⟨by decide +kernel, rfl⟩
theorem eX2_wantGood_80 : Dc cX2_wantGood 80 (.getfield 45) 3 83 := ⟨by decide +kernel, rfl⟩
theorem eX2_wantGood_83 : Dc cX2_wantGood 83 (.iload_n 3) 1 84 := ⟨by decide +kernel, rfl⟩
theorem eX2_wantGood_84 : Dc cX2_wantGood 84 (.iaload) 1 85 := ⟨by decide +kernel, rfl⟩
theorem eX2_wantGood_85 : Dc cX2_wantGood 85 (.goto 12) 3 88 := ⟨by decide +kernel, rfl⟩
theorem eX2_wantGood_88 : Dc cX2_wantGood 88 (.aload_n 0) 1 89 := ⟨by decide +kernel, rfl⟩
theorem eX2_wantGood_89 : Dc cX2_wantGood 89 (.getfield 24) 3 92 := ⟨by decide +kernel, rfl⟩
theorem eX2_wantGood_92 : Dc cX2_wantGood 92 (.getfield 48) 3 95 := ⟨by decide +kernel, rfl⟩
theorem eX2_wantGood_95 : Dc cX2_wantGood 95 (.iload_n 3) 1 96 := ⟨by decide +kernel, rfl⟩
theorem eX2_wantGood_96 : Dc cX2_wantGood 96 (.iaload) 1 97 := ⟨by decide +kernel, rfl⟩
theorem eX2_wantGood_97 : Dc cX2_wantGood 97 (.iadd) 1 98 := ⟨by decide +kernel, rfl⟩
theorem eX2_wantGood_98 : Dc cX2_wantGood 98 (.iastore) 1 99 := ⟨by decide +kernel, rfl⟩
theorem eX2_wantGood_99 : Dc cX2_wantGood 99 (.iinc 5 1) 3 102 := ⟨by decide +kernel, rfl⟩
theorem eX2_wantGood_102 : Dc cX2_wantGood 102 (.goto (-64)) 3 105 := ⟨by decide +kernel, rfl⟩
theorem eX2_wantGood_105 : Dc cX2_wantGood 105 (.iinc 3 1) 3 108 := ⟨by decide +kernel, rfl⟩
theorem eX2_wantGood_108 : Dc cX2_wantGood 108 (.goto (-102)) 3 111 := ⟨by decide +kernel, rfl⟩
theorem eX2_wantGood_111 : Dc cX2_wantGood 111 (.return_) 1 112 := ⟨by decide +kernel, rfl⟩
def fX2_wantGood_L38 (k : SS → Option (SS)) (a1 : Int32) (a2 : Int32) (a3 : Int32) (a4 : Int32) : Nat → Int32 → SS → Option (SS)
  | 0, _, _ => none
  | n + 1, a5, c => if a2 < a5 then k c else if (11 : Int32) ≤ a5 then k c else ald 66 (c.2 9) (a4 + a5) (fun v8 => ald 8 (c.2 8) a3 (fun v9 => jn (fun (x10 : Int32) => ckb 66 (a4 + a5) (fX2_wantGood_L38 k a1 a2 a3 a4 n (a5 + (1 : Int32)) (sA c 9 ((a4 + a5)).toNatClampNeg (v8 + x10)))) (fun j97 => if a5 < v9 then ald 8 (c.2 5) a3 (fun v13 => j97 v13) else ald 8 (c.2 4) a3 (fun v14 => j97 v14))))
def fX2_wantGood_L6  (a1 : Int32) (a2 : Int32) : Nat → Int32 → SS → Option (SS)
  | 0, _, _ => none
  | n + 1, a3, c => if (8 : Int32) ≤ a3 then some c else jn (fun (c3 : SS) => fX2_wantGood_L6 a1 a2 n (a3 + (1 : Int32)) c3) (fun j105 => if ((a1 >>> (a3 &&& 31)) &&& (1 : Int32)) = (1 : Int32) then ald 8 (c.2 2) a3 (fun v5 => fX2_wantGood_L38 (fun (c15 : SS) => j105 c15) a1 a2 a3 (v5 * (11 : Int32)) fu (0 : Int32) c) else j105 c)
def fX2_wantGood (c : SS) (p1 : Int32) (p2 : Int32) : Option (SS) := Option.bind (fX2_clearGain c) (fun q1 => fX2_wantGood_L6 p1 p2 fu (0 : Int32) q1)
set_option maxRecDepth 20000 in
theorem ctX2_wantGood_L38 (l : Launch) (G : tg_G) (A : Nat → Nat) (k : SS → Option (SS)) (a1 : Int32) (a2 : Int32) (a3 : Int32) (a4 : Int32) {z : SS} (hk : ∀ (ec : SS), k ec = some z → V l G (tg_Zm G (fun v w1 => v = none ∧ w1 = wC G A z) 0 0) tg_E0 (tg_R 1 21) "TramGod$Planner" "wantGood" cX2_wantGood 6 none 105 [(0, .ref (A 13)), (1, .int a1), (2, .int a2), (3, .int a3)] [] (wC G A ec) 0 0) : ∀ (n : Nat) (a5 : Int32) (c : SS), fX2_wantGood_L38 k a1 a2 a3 a4 n a5 c = some z → V l G (tg_Zm G (fun v w1 => v = none ∧ w1 = wC G A z) 0 0) tg_E0 (tg_R 1 21) "TramGod$Planner" "wantGood" cX2_wantGood 6 none 38 [(0, .ref (A 13)), (1, .int a1), (2, .int a2), (3, .int a3), (4, .int a4), (5, .int a5)] [] (wC G A c) 0 0 := by
  intro n
  induction n with
  | zero => intro a5 c h; exact absurd h (by simp [fX2_wantGood_L38])
  | succ n ih =>
    intro a5 c h
    unfold fX2_wantGood_L38 at h
    refine V_iload eX2_wantGood_38 5 rfl ?_
    refine V_iload_n eX2_wantGood_40 2 rfl ?_
    refine V_icmp_gt (tgt := 105) eX2_wantGood_41 rfl (fun hb6 => ?_) (fun hb6 => ?_)
    · replace h := (if_pos hb6).symm.trans h
      refine V_lv (lv' := [(0, .ref (A 13)), (1, .int a1), (2, .int a2), (3, .int a3)]) [0, 1, 2, 3] rfl ?_
      exact hk c h
    · replace h := (if_neg hb6).symm.trans h
      refine V_iload eX2_wantGood_44 5 rfl ?_
      refine V_bipush (v := (11 : Int32)) eX2_wantGood_46 rfl ?_
      refine V_icmp_ge (tgt := 105) eX2_wantGood_48 rfl (fun hb7 => ?_) (fun hb7 => ?_)
      · replace h := (if_pos hb7).symm.trans h
        refine V_lv (lv' := [(0, .ref (A 13)), (1, .int a1), (2, .int a2), (3, .int a3)]) [0, 1, 2, 3] rfl ?_
        exact hk c h
      · replace h := (if_neg hb7).symm.trans h
        refine V_aload_n eX2_wantGood_51 0 rfl ?_
        refine V_get (v := .ref (A 14)) eX2_wantGood_52 inX2 13 rfl rfl 2 (Nat.le_of_ble_eq_true rfl) tw_135 rfl ?_
        refine V_iload eX2_wantGood_55 4 rfl ?_
        refine V_iload eX2_wantGood_57 5 rfl ?_
        refine V_iadd eX2_wantGood_59 ?_
        refine V_dup2 eX2_wantGood_60 rfl rfl ?_
        obtain ⟨v8, hi8, ev8, h⟩ := ald_some h
        refine V_ialdv eX2_wantGood_61 14 rfl hi8 ev8 ?_
        refine V_aload_n eX2_wantGood_62 0 rfl ?_
        refine V_get (v := .ref (A 11)) eX2_wantGood_63 inX2 13 rfl rfl 1 (Nat.le_of_ble_eq_true rfl) tw_134 rfl ?_
        refine V_get (v := .ref (A 12)) eX2_wantGood_66 inX4 11 rfl rfl 1 (Nat.le_of_ble_eq_true rfl) tw_121 rfl ?_
        refine V_iload_n eX2_wantGood_69 3 rfl ?_
        obtain ⟨v9, hi9, ev9, h⟩ := ald_some h
        refine V_ialdv eX2_wantGood_70 12 rfl hi9 ev9 ?_
        refine V_iload eX2_wantGood_71 5 rfl ?_
        refine jn_elim h (fun j => ∀ (x10 : Int32), j x10 = some z → V l G (tg_Zm G (fun v w1 => v = none ∧ w1 = wC G A z) 0 0) tg_E0 (tg_R 1 21) "TramGod$Planner" "wantGood" cX2_wantGood 6 none 97 [(0, .ref (A 13)), (1, .int a1), (2, .int a2), (3, .int a3), (4, .int a4), (5, .int a5)] [.int x10, .int v8, .int (a4 + a5), .ref (A 14)] (wC G A c) 0 0) ?_ (fun j97 hj97 h => ?_)
        · intro x10 h
          refine V_iadd eX2_wantGood_97 ?_
          obtain ⟨hi11, h⟩ := ckb_some h
          refine V_iast (w' := wC G A (sA c 9 ((a4 + a5)).toNatClampNeg (v8 + x10))) eX2_wantGood_98 14 rfl hi11 rfl ?_
          refine V_iinc (v := (a5 + (1 : Int32))) (lv' := [(5, .int (a5 + (1 : Int32))), (0, .ref (A 13)), (1, .int a1), (2, .int a2), (3, .int a3), (4, .int a4)]) eX2_wantGood_99 5 rfl rfl (Nat.le_of_ble_eq_true rfl) rfl ?_
          refine V_goto (tgt := 38) eX2_wantGood_102 rfl ?_
          refine V_lv (lv' := [(0, .ref (A 13)), (1, .int a1), (2, .int a2), (3, .int a3), (4, .int a4), (5, .int (a5 + (1 : Int32)))]) [1, 2, 3, 4, 5, 0] rfl ?_
          exact ih (a5 + (1 : Int32)) (sA c 9 ((a4 + a5)).toNatClampNeg (v8 + x10)) h
        refine V_icmp_gt (tgt := 88) eX2_wantGood_73 rfl (fun hb12 => ?_) (fun hb12 => ?_)
        · replace h := (if_pos hb12).symm.trans h
          refine V_aload_n eX2_wantGood_88 0 rfl ?_
          refine V_get (v := .ref (A 3)) eX2_wantGood_89 inX2 13 rfl rfl 0 (Nat.le_of_ble_eq_true rfl) tw_133 rfl ?_
          refine V_get (v := .ref (A 8)) eX2_wantGood_92 inX5 3 rfl rfl 12 (Nat.le_of_ble_eq_true rfl) tw_75 rfl ?_
          refine V_iload_n eX2_wantGood_95 3 rfl ?_
          obtain ⟨v13, hi13, ev13, h⟩ := ald_some h
          refine V_ialdv eX2_wantGood_96 8 rfl hi13 ev13 ?_
          exact hj97 v13 h
        · replace h := (if_neg hb12).symm.trans h
          refine V_aload_n eX2_wantGood_76 0 rfl ?_
          refine V_get (v := .ref (A 3)) eX2_wantGood_77 inX2 13 rfl rfl 0 (Nat.le_of_ble_eq_true rfl) tw_133 rfl ?_
          refine V_get (v := .ref (A 7)) eX2_wantGood_80 inX5 3 rfl rfl 11 (Nat.le_of_ble_eq_true rfl) tw_72 rfl ?_
          refine V_iload_n eX2_wantGood_83 3 rfl ?_
          obtain ⟨v14, hi14, ev14, h⟩ := ald_some h
          refine V_ialdv eX2_wantGood_84 7 rfl hi14 ev14 ?_
          refine V_goto (tgt := 97) eX2_wantGood_85 rfl ?_
          exact hj97 v14 h
set_option maxRecDepth 20000 in
theorem ctX2_wantGood_L6 (l : Launch) (G : tg_G) (A : Nat → Nat)  (a1 : Int32) (a2 : Int32) {z : SS}  : ∀ (n : Nat) (a3 : Int32) (c : SS), fX2_wantGood_L6 a1 a2 n a3 c = some z → V l G (tg_Zm G (fun v w1 => v = none ∧ w1 = wC G A z) 0 0) tg_E0 (tg_R 1 21) "TramGod$Planner" "wantGood" cX2_wantGood 6 none 6 [(0, .ref (A 13)), (1, .int a1), (2, .int a2), (3, .int a3)] [] (wC G A c) 0 0 := by
  intro n
  induction n with
  | zero => intro a3 c h; exact absurd h (by simp [fX2_wantGood_L6])
  | succ n ih =>
    intro a3 c h
    unfold fX2_wantGood_L6 at h
    refine V_iload_n eX2_wantGood_6 3 rfl ?_
    refine V_bipush (v := (8 : Int32)) eX2_wantGood_7 rfl ?_
    refine V_icmp_ge (tgt := 111) eX2_wantGood_9 rfl (fun hb2 => ?_) (fun hb2 => ?_)
    · replace h := (if_pos hb2).symm.trans h
      obtain rfl := Option.some.inj h
      exact V_vret eX2_wantGood_111 rfl ⟨rfl, rfl⟩
    · replace h := (if_neg hb2).symm.trans h
      refine V_iload_n eX2_wantGood_12 1 rfl ?_
      refine V_iload_n eX2_wantGood_13 3 rfl ?_
      refine V_ishr eX2_wantGood_14 ?_
      refine V_iconst (v := (1 : Int32)) eX2_wantGood_15 rfl ?_
      refine V_iand eX2_wantGood_16 ?_
      refine V_iconst (v := (1 : Int32)) eX2_wantGood_17 rfl ?_
      refine jn_elim h (fun j => ∀ (c3 : SS), j c3 = some z → V l G (tg_Zm G (fun v w1 => v = none ∧ w1 = wC G A z) 0 0) tg_E0 (tg_R 1 21) "TramGod$Planner" "wantGood" cX2_wantGood 6 none 105 [(0, .ref (A 13)), (1, .int a1), (2, .int a2), (3, .int a3)] [] (wC G A c3) 0 0) ?_ (fun j105 hj105 h => ?_)
      · intro c3 h
        refine V_iinc (v := (a3 + (1 : Int32))) (lv' := [(3, .int (a3 + (1 : Int32))), (0, .ref (A 13)), (1, .int a1), (2, .int a2)]) eX2_wantGood_105 3 rfl rfl (Nat.le_of_ble_eq_true rfl) rfl ?_
        refine V_goto (tgt := 6) eX2_wantGood_108 rfl ?_
        refine V_lv (lv' := [(0, .ref (A 13)), (1, .int a1), (2, .int a2), (3, .int (a3 + (1 : Int32)))]) [1, 2, 3, 0] rfl ?_
        exact ih (a3 + (1 : Int32)) c3 h
      refine V_icmp_ne (tgt := 105) eX2_wantGood_18 rfl (fun hb4 => ?_) (fun hb4 => ?_)
      · replace h := (if_neg hb4).symm.trans h
        exact hj105 c h
      · replace h := (if_pos hb4).symm.trans h
        refine V_aload_n eX2_wantGood_21 0 rfl ?_
        refine V_get (v := .ref (A 3)) eX2_wantGood_22 inX2 13 rfl rfl 0 (Nat.le_of_ble_eq_true rfl) tw_133 rfl ?_
        refine V_get (v := .ref (A 5)) eX2_wantGood_25 inX5 3 rfl rfl 9 (Nat.le_of_ble_eq_true rfl) tw_66 rfl ?_
        refine V_iload_n eX2_wantGood_28 3 rfl ?_
        obtain ⟨v5, hi5, ev5, h⟩ := ald_some h
        refine V_ialdv eX2_wantGood_29 5 rfl hi5 ev5 ?_
        refine V_bipush (v := (11 : Int32)) eX2_wantGood_30 rfl ?_
        refine V_imul eX2_wantGood_32 ?_
        refine V_istore (lv' := [(4, .int (v5 * (11 : Int32))), (0, .ref (A 13)), (1, .int a1), (2, .int a2), (3, .int a3)]) eX2_wantGood_33 (Nat.le_of_ble_eq_true rfl) rfl ?_
        refine V_iconst (v := (0 : Int32)) eX2_wantGood_35 rfl ?_
        refine V_istore (lv' := [(5, .int (0 : Int32)), (4, .int (v5 * (11 : Int32))), (0, .ref (A 13)), (1, .int a1), (2, .int a2), (3, .int a3)]) eX2_wantGood_36 (Nat.le_of_ble_eq_true rfl) rfl ?_
        refine V_lv (lv' := [(0, .ref (A 13)), (1, .int a1), (2, .int a2), (3, .int a3), (4, .int (v5 * (11 : Int32))), (5, .int (0 : Int32))]) [2, 3, 4, 5, 1, 0] rfl ?_
        refine ctX2_wantGood_L38 l G A _ a1 a2 a3 (v5 * (11 : Int32)) ?_ fu (0 : Int32) c h
        · intro c15 h
          exact hj105 c15 h
set_option maxRecDepth 20000 in
theorem ctX2_wantGood (l : Launch) (G : tg_G) (A : Nat → Nat) (c : SS) (p1 : Int32) (p2 : Int32) {z : SS} (h : fX2_wantGood c p1 p2 = some z) : Mt l G yX2_wantGood cX2_wantGood 6 none (tg_R 1 21) [.ref (A 13), .int p1, .int p2] (wC G A c) (fun v w1 => v = none ∧ w1 = wC G A z) := by
  refine Mt_of2 (own := "TramGod$Planner") (nm := "wantGood") rfl rfl rfl (Nat.le_of_ble_eq_true rfl) (lv := [(0, .ref (A 13)), (1, .int p1), (2, .int p2)]) rfl ?_
  unfold fX2_wantGood at h
  refine V_aload_n eX2_wantGood_0 0 rfl ?_
  obtain ⟨q1, hc1, h⟩ := Option.bind_eq_some_iff.mp h
  refine V_callVv (rest := []) eX2_wantGood_1 (ctX2_clearGain l G A c hc1) tc_418 tw_415 tw_5 tw_417 ts_8 13 rfl rfl hdX2_clearGain rfl ⟨Nat.le_of_ble_eq_true rfl, Nat.le_of_ble_eq_true rfl⟩ rfl (Nat.le_of_ble_eq_true rfl) ⟨Nat.zero_le _, Nat.zero_le _⟩ ?_
  refine V_iconst (v := (0 : Int32)) eX2_wantGood_4 rfl ?_
  refine V_istore_n (lv' := [(3, .int (0 : Int32)), (0, .ref (A 13)), (1, .int p1), (2, .int p2)]) eX2_wantGood_5 (Nat.le_of_ble_eq_true rfl) rfl ?_
  refine V_lv (lv' := [(0, .ref (A 13)), (1, .int p1), (2, .int p2), (3, .int (0 : Int32))]) [1, 2, 3, 0] rfl ?_
  refine ctX2_wantGood_L6 l G A p1 p2 fu (0 : Int32) q1 h
theorem hdX2_weighAll : yX2_weighAll.cls ≠ "java/lang/invoke/MethodHandle" ∧ yX2_weighAll.cls ≠ "java/lang/invoke/VarHandle" ∧ (parseMethodDescriptor yX2_weighAll.desc).map (fun d => d.parameters.length) = some 1 := by decide +kernel
theorem eX2_weighAll_0 : Dc cX2_weighAll 0 (.iconst 0) 1 1 := ⟨by decide +kernel, rfl⟩
theorem eX2_weighAll_1 : Dc cX2_weighAll 1 (.istore_n 2) 1 2 := ⟨by decide +kernel, rfl⟩
theorem eX2_weighAll_2 : Dc cX2_weighAll 2 (.iload_n 2) 1 3 := ⟨by decide +kernel, rfl⟩
theorem eX2_weighAll_3 : Dc cX2_weighAll 3 (.bipush 6) 2 5 := ⟨by decide +kernel, rfl⟩
theorem eX2_weighAll_5 : Dc cX2_weighAll 5 (.if_icmp .ge 16) 3 8 := ⟨by decide +kernel, rfl⟩
theorem eX2_weighAll_8 : Dc cX2_weighAll 8 (.aload_n 0) 1 9 := ⟨by decide +kernel, rfl⟩
theorem eX2_weighAll_9 : Dc cX2_weighAll 9 (.getfield 15) 3 12 := ⟨by decide +kernel, rfl⟩
theorem eX2_weighAll_12 : Dc cX2_weighAll 12 (.iload_n 2) 1 13 := ⟨by decide +kernel, rfl⟩
theorem eX2_weighAll_13 : Dc cX2_weighAll 13 (.iload_n 1) 1 14 := ⟨by decide +kernel, rfl⟩
theorem eX2_weighAll_14 : Dc cX2_weighAll 14 (.iastore) 1 15 := ⟨by decide +kernel, rfl⟩
theorem eX2_weighAll_15 : Dc cX2_weighAll 15 (.iinc 2 1) 3 18 := ⟨by decide +kernel, rfl⟩
theorem eX2_weighAll_18 : Dc cX2_weighAll 18 (.goto (-16)) 3 21 := ⟨by decide +kernel, rfl⟩
theorem eX2_weighAll_21 : Dc cX2_weighAll 21 (.return_) 1 22 := ⟨by decide +kernel, rfl⟩
def fX2_weighAll_L2  (a1 : Int32) : Nat → Int32 → SS → Option (SS)
  | 0, _, _ => none
  | n + 1, a2, c => if (6 : Int32) ≤ a2 then some c else ckb 6 a2 (fX2_weighAll_L2 a1 n (a2 + (1 : Int32)) (sA c 10 (a2).toNatClampNeg a1))
def fX2_weighAll (c : SS) (p1 : Int32) : Option (SS) := fX2_weighAll_L2 p1 fu (0 : Int32) c
set_option maxRecDepth 20000 in
theorem ctX2_weighAll_L2 (l : Launch) (G : tg_G) (A : Nat → Nat)  (a1 : Int32) {z : SS}  : ∀ (n : Nat) (a2 : Int32) (c : SS), fX2_weighAll_L2 a1 n a2 c = some z → V l G (tg_Zm G (fun v w1 => v = none ∧ w1 = wC G A z) 0 0) tg_E0 (tg_R 0 0) "TramGod$Planner" "weighAll" cX2_weighAll 3 none 2 [(0, .ref (A 13)), (1, .int a1), (2, .int a2)] [] (wC G A c) 0 0 := by
  intro n
  induction n with
  | zero => intro a2 c h; exact absurd h (by simp [fX2_weighAll_L2])
  | succ n ih =>
    intro a2 c h
    unfold fX2_weighAll_L2 at h
    refine V_iload_n eX2_weighAll_2 2 rfl ?_
    refine V_bipush (v := (6 : Int32)) eX2_weighAll_3 rfl ?_
    refine V_icmp_ge (tgt := 21) eX2_weighAll_5 rfl (fun hb1 => ?_) (fun hb1 => ?_)
    · replace h := (if_pos hb1).symm.trans h
      obtain rfl := Option.some.inj h
      exact V_vret eX2_weighAll_21 rfl ⟨rfl, rfl⟩
    · replace h := (if_neg hb1).symm.trans h
      refine V_aload_n eX2_weighAll_8 0 rfl ?_
      refine V_get (v := .ref (A 15)) eX2_weighAll_9 inX2 13 rfl rfl 3 (Nat.le_of_ble_eq_true rfl) tw_136 rfl ?_
      refine V_iload_n eX2_weighAll_12 2 rfl ?_
      refine V_iload_n eX2_weighAll_13 1 rfl ?_
      obtain ⟨hi2, h⟩ := ckb_some h
      refine V_iast (w' := wC G A (sA c 10 (a2).toNatClampNeg a1)) eX2_weighAll_14 15 rfl hi2 rfl ?_
      refine V_iinc (v := (a2 + (1 : Int32))) (lv' := [(2, .int (a2 + (1 : Int32))), (0, .ref (A 13)), (1, .int a1)]) eX2_weighAll_15 2 rfl rfl (Nat.le_of_ble_eq_true rfl) rfl ?_
      refine V_goto (tgt := 2) eX2_weighAll_18 rfl ?_
      refine V_lv (lv' := [(0, .ref (A 13)), (1, .int a1), (2, .int (a2 + (1 : Int32)))]) [1, 2, 0] rfl ?_
      exact ih (a2 + (1 : Int32)) (sA c 10 (a2).toNatClampNeg a1) h
set_option maxRecDepth 20000 in
theorem ctX2_weighAll (l : Launch) (G : tg_G) (A : Nat → Nat) (c : SS) (p1 : Int32) {z : SS} (h : fX2_weighAll c p1 = some z) : Mt l G yX2_weighAll cX2_weighAll 3 none (tg_R 0 0) [.ref (A 13), .int p1] (wC G A c) (fun v w1 => v = none ∧ w1 = wC G A z) := by
  refine Mt_of2 (own := "TramGod$Planner") (nm := "weighAll") rfl rfl rfl (Nat.le_of_ble_eq_true rfl) (lv := [(0, .ref (A 13)), (1, .int p1)]) rfl ?_
  unfold fX2_weighAll at h
  refine V_iconst (v := (0 : Int32)) eX2_weighAll_0 rfl ?_
  refine V_istore_n (lv' := [(2, .int (0 : Int32)), (0, .ref (A 13)), (1, .int p1)]) eX2_weighAll_1 (Nat.le_of_ble_eq_true rfl) rfl ?_
  refine V_lv (lv' := [(0, .ref (A 13)), (1, .int p1), (2, .int (0 : Int32))]) [1, 2, 0] rfl ?_
  refine ctX2_weighAll_L2 l G A p1 fu (0 : Int32) c h
theorem hdX2_startRow : yX2_startRow.cls ≠ "java/lang/invoke/MethodHandle" ∧ yX2_startRow.cls ≠ "java/lang/invoke/VarHandle" ∧ (parseMethodDescriptor yX2_startRow.desc).map (fun d => d.parameters.length) = some 2 := by decide +kernel
theorem eX2_startRow_0 : Dc cX2_startRow 0 (.iconst 0) 1 1 := ⟨by decide +kernel, rfl⟩
theorem eX2_startRow_1 : Dc cX2_startRow 1 (.istore_n 3) 1 2 := ⟨by decide +kernel, rfl⟩
theorem eX2_startRow_2 : Dc cX2_startRow 2 (.iload_n 3) 1 3 := ⟨by decide +kernel, rfl⟩
theorem eX2_startRow_3 : Dc cX2_startRow 3 (.bipush 11) 2 5 := ⟨by decide +kernel, rfl⟩
theorem eX2_startRow_5 : Dc cX2_startRow 5 (.if_icmp .ge 21) 3 8 := ⟨by decide +kernel, rfl⟩
theorem eX2_startRow_8 : Dc cX2_startRow 8 (.aload_n 0) 1 9 := ⟨by decide +kernel, rfl⟩
theorem eX2_startRow_9 : Dc cX2_startRow 9 (.getfield 18) 3 12 := ⟨by decide +kernel, rfl⟩
theorem eX2_startRow_12 : Dc cX2_startRow 12 (.iload_n 1) 1 13 := ⟨by decide +kernel, rfl⟩
theorem eX2_startRow_13 : Dc cX2_startRow 13 (.bipush 11) 2 15 := ⟨by decide +kernel, rfl⟩
theorem eX2_startRow_15 : Dc cX2_startRow 15 (.imul) 1 16 := ⟨by decide +kernel, rfl⟩
theorem eX2_startRow_16 : Dc cX2_startRow 16 (.iload_n 3) 1 17 := ⟨by decide +kernel, rfl⟩
theorem eX2_startRow_17 : Dc cX2_startRow 17 (.iadd) 1 18 := ⟨by decide +kernel, rfl⟩
theorem eX2_startRow_18 : Dc cX2_startRow 18 (.iload_n 2) 1 19 := ⟨by decide +kernel, rfl⟩
theorem eX2_startRow_19 : Dc cX2_startRow 19 (.iastore) 1 20 := ⟨by decide +kernel, rfl⟩
theorem eX2_startRow_20 : Dc cX2_startRow 20 (.iinc 3 1) 3 23 := ⟨by decide +kernel, rfl⟩
theorem eX2_startRow_23 : Dc cX2_startRow 23 (.goto (-21)) 3 26 := ⟨by decide +kernel, rfl⟩
theorem eX2_startRow_26 : Dc cX2_startRow 26 (.return_) 1 27 := ⟨by decide +kernel, rfl⟩
def fX2_startRow_L2  (a1 : Int32) (a2 : Int32) : Nat → Int32 → SS → Option (SS)
  | 0, _, _ => none
  | n + 1, a3, c => if (11 : Int32) ≤ a3 then some c else ckb 77 ((a1 * (11 : Int32)) + a3) (fX2_startRow_L2 a1 a2 n (a3 + (1 : Int32)) (sA c 11 (((a1 * (11 : Int32)) + a3)).toNatClampNeg a2))
def fX2_startRow (c : SS) (p1 : Int32) (p2 : Int32) : Option (SS) := fX2_startRow_L2 p1 p2 fu (0 : Int32) c
set_option maxRecDepth 20000 in
theorem ctX2_startRow_L2 (l : Launch) (G : tg_G) (A : Nat → Nat)  (a1 : Int32) (a2 : Int32) {z : SS}  : ∀ (n : Nat) (a3 : Int32) (c : SS), fX2_startRow_L2 a1 a2 n a3 c = some z → V l G (tg_Zm G (fun v w1 => v = none ∧ w1 = wC G A z) 0 0) tg_E0 (tg_R 0 0) "TramGod$Planner" "startRow" cX2_startRow 4 none 2 [(0, .ref (A 13)), (1, .int a1), (2, .int a2), (3, .int a3)] [] (wC G A c) 0 0 := by
  intro n
  induction n with
  | zero => intro a3 c h; exact absurd h (by simp [fX2_startRow_L2])
  | succ n ih =>
    intro a3 c h
    unfold fX2_startRow_L2 at h
    refine V_iload_n eX2_startRow_2 3 rfl ?_
    refine V_bipush (v := (11 : Int32)) eX2_startRow_3 rfl ?_
    refine V_icmp_ge (tgt := 26) eX2_startRow_5 rfl (fun hb1 => ?_) (fun hb1 => ?_)
    · replace h := (if_pos hb1).symm.trans h
      obtain rfl := Option.some.inj h
      exact V_vret eX2_startRow_26 rfl ⟨rfl, rfl⟩
    · replace h := (if_neg hb1).symm.trans h
      refine V_aload_n eX2_startRow_8 0 rfl ?_
      refine V_get (v := .ref (A 16)) eX2_startRow_9 inX2 13 rfl rfl 4 (Nat.le_of_ble_eq_true rfl) tw_138 rfl ?_
      refine V_iload_n eX2_startRow_12 1 rfl ?_
      refine V_bipush (v := (11 : Int32)) eX2_startRow_13 rfl ?_
      refine V_imul eX2_startRow_15 ?_
      refine V_iload_n eX2_startRow_16 3 rfl ?_
      refine V_iadd eX2_startRow_17 ?_
      refine V_iload_n eX2_startRow_18 2 rfl ?_
      obtain ⟨hi2, h⟩ := ckb_some h
      refine V_iast (w' := wC G A (sA c 11 (((a1 * (11 : Int32)) + a3)).toNatClampNeg a2)) eX2_startRow_19 16 rfl hi2 rfl ?_
      refine V_iinc (v := (a3 + (1 : Int32))) (lv' := [(3, .int (a3 + (1 : Int32))), (0, .ref (A 13)), (1, .int a1), (2, .int a2)]) eX2_startRow_20 3 rfl rfl (Nat.le_of_ble_eq_true rfl) rfl ?_
      refine V_goto (tgt := 2) eX2_startRow_23 rfl ?_
      refine V_lv (lv' := [(0, .ref (A 13)), (1, .int a1), (2, .int a2), (3, .int (a3 + (1 : Int32)))]) [1, 2, 3, 0] rfl ?_
      exact ih (a3 + (1 : Int32)) (sA c 11 (((a1 * (11 : Int32)) + a3)).toNatClampNeg a2) h
set_option maxRecDepth 20000 in
theorem ctX2_startRow (l : Launch) (G : tg_G) (A : Nat → Nat) (c : SS) (p1 : Int32) (p2 : Int32) {z : SS} (h : fX2_startRow c p1 p2 = some z) : Mt l G yX2_startRow cX2_startRow 4 none (tg_R 0 0) [.ref (A 13), .int p1, .int p2] (wC G A c) (fun v w1 => v = none ∧ w1 = wC G A z) := by
  refine Mt_of2 (own := "TramGod$Planner") (nm := "startRow") rfl rfl rfl (Nat.le_of_ble_eq_true rfl) (lv := [(0, .ref (A 13)), (1, .int p1), (2, .int p2)]) rfl ?_
  unfold fX2_startRow at h
  refine V_iconst (v := (0 : Int32)) eX2_startRow_0 rfl ?_
  refine V_istore_n (lv' := [(3, .int (0 : Int32)), (0, .ref (A 13)), (1, .int p1), (2, .int p2)]) eX2_startRow_1 (Nat.le_of_ble_eq_true rfl) rfl ?_
  refine V_lv (lv' := [(0, .ref (A 13)), (1, .int p1), (2, .int p2), (3, .int (0 : Int32))]) [1, 2, 3, 0] rfl ?_
  refine ctX2_startRow_L2 l G A p1 p2 fu (0 : Int32) c h
theorem hdX5_mayHold : yX5_mayHold.cls ≠ "java/lang/invoke/MethodHandle" ∧ yX5_mayHold.cls ≠ "java/lang/invoke/VarHandle" ∧ (parseMethodDescriptor yX5_mayHold.desc).map (fun d => d.parameters.length) = some 2 := by decide +kernel
theorem eX5_mayHold_0 : Dc cX5_mayHold 0 (.aload_n 0) 1 1 := ⟨by decide +kernel, rfl⟩
theorem eX5_mayHold_1 : Dc cX5_mayHold 1 (.iload_n 1) 1 2 := ⟨by decide +kernel, rfl⟩
theorem eX5_mayHold_2 : Dc cX5_mayHold 2 (.invokevirtual 89) 3 5 := ⟨by decide +kernel, rfl⟩
theorem eX5_mayHold_5 : Dc cX5_mayHold 5 (.ifCond .eq 7) 3 8 := ⟨by decide +kernel, rfl⟩
theorem eX5_mayHold_8 : Dc cX5_mayHold 8 (.iconst 0) 1 9 := ⟨by decide +kernel, rfl⟩
theorem eX5_mayHold_9 : Dc cX5_mayHold 9 (.goto 11) 3 12 := ⟨by decide +kernel, rfl⟩
theorem eX5_mayHold_12 : Dc cX5_mayHold 12 (.aload_n 0) 1 13 := ⟨by decide +kernel, rfl⟩
theorem eX5_mayHold_13 : Dc cX5_mayHold 13 (.getfield 18) 3 16 := ⟨by decide +kernel, rfl⟩
theorem eX5_mayHold_16 : Dc cX5_mayHold 16 (.iload_n 2) 1 17 := ⟨by decide +kernel, rfl⟩
theorem eX5_mayHold_17 : Dc cX5_mayHold 17 (.invokestatic 69) 3 20 := ⟨by decide +kernel, rfl⟩
theorem eX5_mayHold_20 : Dc cX5_mayHold 20 (.ireturn) 1 21 := ⟨by decide +kernel, rfl⟩
def fX5_mayHold (c : SS) (p1 : Int32) (p2 : Int32) : Int32 := if (fX5_isClosed c p1) = (0 : Int32) then (mmin (c.1 4) p2) else (0 : Int32)
set_option maxRecDepth 20000 in
theorem ctX5_mayHold (l : Launch) (G : tg_G) (A : Nat → Nat) (c : SS) (p1 : Int32) (p2 : Int32) {z : Int32} (h : fX5_mayHold c p1 p2 = z) : Mt l G yX5_mayHold cX5_mayHold 3 (some .int) (tg_R 1 21) [.ref (A 3), .int p1, .int p2] (wC G A c) (fun v w1 => v = some (.int z) ∧ w1 = wC G A c) := by
  refine Mt_of2 (own := "TramGod$World") (nm := "mayHold") rfl rfl rfl (Nat.le_of_ble_eq_true rfl) (lv := [(0, .ref (A 3)), (1, .int p1), (2, .int p2)]) rfl ?_
  unfold fX5_mayHold at h
  refine V_aload_n eX5_mayHold_0 0 rfl ?_
  refine V_iload_n eX5_mayHold_1 1 rfl ?_
  refine V_callVi (rest := []) eX5_mayHold_2 (ctX5_isClosed l G A c p1 rfl) tc_331 tw_439 tw_3 tw_329 tw_330 3 rfl rfl hdX5_isClosed rfl ⟨Nat.le_of_ble_eq_true rfl, Nat.le_of_ble_eq_true rfl⟩ rfl (Nat.le_of_ble_eq_true rfl) ⟨Nat.zero_le _, Nat.zero_le _⟩ ?_
  refine V_if_eq (tgt := 12) eX5_mayHold_5 rfl (fun hb1 => ?_) (fun hb1 => ?_)
  · replace h := (if_pos hb1).symm.trans h
    refine V_aload_n eX5_mayHold_12 0 rfl ?_
    refine V_get (v := .int (c.1 4)) eX5_mayHold_13 inX5 3 rfl rfl 3 (Nat.le_of_ble_eq_true rfl) tw_52 rfl ?_
    refine V_iload_n eX5_mayHold_16 2 rfl ?_
    refine V_mmin (rest := []) eX5_mayHold_17 tw_271 tw_272 tw_9 tc_273 (Nat.le_of_ble_eq_true rfl) (Nat.le_of_ble_eq_true rfl) ⟨Nat.zero_le _, Nat.zero_le _⟩ ?_
    subst h
    exact V_ret eX5_mayHold_20 rfl ⟨rfl, rfl⟩
  · replace h := (if_neg hb1).symm.trans h
    refine V_iconst (v := (0 : Int32)) eX5_mayHold_8 rfl ?_
    refine V_goto (tgt := 20) eX5_mayHold_9 rfl ?_
    subst h
    exact V_ret eX5_mayHold_20 rfl ⟨rfl, rfl⟩
theorem hdX2_choose : yX2_choose.cls ≠ "java/lang/invoke/MethodHandle" ∧ yX2_choose.cls ≠ "java/lang/invoke/VarHandle" ∧ (parseMethodDescriptor yX2_choose.desc).map (fun d => d.parameters.length) = some 3 := by decide +kernel
theorem eX2_choose_0 : Dc cX2_choose 0 (.aload_n 0) 1 1 := ⟨by decide +kernel, rfl⟩
theorem eX2_choose_1 : Dc cX2_choose 1 (.getfield 24) 3 4 := ⟨by decide +kernel, rfl⟩
theorem eX2_choose_4 : Dc cX2_choose 4 (.iload_n 1) 1 5 := ⟨by decide +kernel, rfl⟩
theorem eX2_choose_5 : Dc cX2_choose 5 (.iload_n 3) 1 6 := ⟨by decide +kernel, rfl⟩
theorem eX2_choose_6 : Dc cX2_choose 6 (.iload_n 2) 1 7 := ⟨by decide +kernel, rfl⟩
theorem eX2_choose_7 : Dc cX2_choose 7 (.isub) 1 8 := ⟨by decide +kernel, rfl⟩
theorem eX2_choose_8 : Dc cX2_choose 8 (.invokevirtual 64) 3 11 := ⟨by decide +kernel, rfl⟩
theorem eX2_choose_11 : Dc cX2_choose 11 (.istore 4) 2 13 := ⟨by decide +kernel, rfl⟩
theorem eX2_choose_13 : Dc cX2_choose 13 (.iload_n 1) 1 14 := ⟨by decide +kernel, rfl⟩
theorem eX2_choose_14 : Dc cX2_choose 14 (.bipush 11) 2 16 := ⟨by decide +kernel, rfl⟩
theorem eX2_choose_16 : Dc cX2_choose 16 (.imul) 1 17 := ⟨by decide +kernel, rfl⟩
theorem eX2_choose_17 : Dc cX2_choose 17 (.iload_n 2) 1 18 := ⟨by decide +kernel, rfl⟩
theorem eX2_choose_18 : Dc cX2_choose 18 (.iadd) 1 19 := ⟨by decide +kernel, rfl⟩
theorem eX2_choose_19 : Dc cX2_choose 19 (.istore 5) 2 21 := ⟨by decide +kernel, rfl⟩
theorem eX2_choose_21 : Dc cX2_choose 21 (.iconst 0) 1 22 := ⟨by decide +kernel, rfl⟩
theorem eX2_choose_22 : Dc cX2_choose 22 (.istore 6) 2 24 := ⟨by decide +kernel, rfl⟩
theorem eX2_choose_24 : Dc cX2_choose 24 (.iconst 0) 1 25 := ⟨by decide +kernel, rfl⟩
theorem eX2_choose_25 : Dc cX2_choose 25 (.istore 7) 2 27 := ⟨by decide +kernel, rfl⟩
theorem eX2_choose_27 : Dc cX2_choose 27 (.iload 7) 2 29 := ⟨by decide +kernel, rfl⟩
theorem eX2_choose_29 : Dc cX2_choose 29 (.iload 4) 2 31 := ⟨by decide +kernel, rfl⟩
theorem eX2_choose_31 : Dc cX2_choose 31 (.if_icmp .gt 70) 3 34 := ⟨by decide +kernel, rfl⟩
theorem eX2_choose_34 : Dc cX2_choose 34 (.aload_n 0) 1 35 := ⟨by decide +kernel, rfl⟩
theorem eX2_choose_35 : Dc cX2_choose 35 (.getfield 9) 3 38 := ⟨by decide +kernel, rfl⟩
theorem eX2_choose_38 : Dc cX2_choose 38 (.iload 5) 2 40 := ⟨by decide +kernel, rfl⟩
theorem eX2_choose_40 : Dc cX2_choose 40 (.iload 7) 2 42 := ⟨by decide +kernel, rfl⟩
theorem eX2_choose_42 : Dc cX2_choose 42 (.iadd) 1 43 := ⟨by decide +kernel, rfl⟩
theorem eX2_choose_43 : Dc cX2_choose 43 (.iaload) 1 44 := ⟨by decide +kernel, rfl⟩
theorem eX2_choose_44 : Dc cX2_choose 44 (.aload_n 0) 1 45 := ⟨by decide +kernel, rfl⟩
theorem eX2_choose_45 : Dc cX2_choose 45 (.getfield 15) 3 48 := ⟨by decide +kernel, rfl⟩
theorem eX2_choose_48 : Dc cX2_choose 48 (.iload_n 1) 1 49 := ⟨by decide +kernel, rfl⟩
theorem eX2_choose_49 : Dc cX2_choose 49 (.iaload) 1 50 := ⟨by decide +kernel, rfl⟩
theorem eX2_choose_50 : Dc cX2_choose 50 (.iload 7) 2 52 := ⟨by decide +kernel, rfl⟩
theorem eX2_choose_52 : Dc cX2_choose 52 (.imul) 1 53 := ⟨by decide +kernel, rfl⟩
theorem eX2_choose_53 : Dc cX2_choose 53 (.iadd) 1 54 := ⟨by decide +kernel, rfl⟩
theorem eX2_choose_54 : Dc cX2_choose 54 (.aload_n 0) 1 55 := ⟨by decide +kernel, rfl⟩
theorem eX2_choose_55 : Dc cX2_choose 55 (.getfield 18) 3 58 := ⟨by decide +kernel, rfl⟩
theorem eX2_choose_58 : Dc cX2_choose 58 (.iload 5) 2 60 := ⟨by decide +kernel, rfl⟩
theorem eX2_choose_60 : Dc cX2_choose 60 (.bipush 11) 2 62 := ⟨by decide +kernel, rfl⟩
theorem eX2_choose_62 : Dc cX2_choose 62 (.iadd) 1 63 := ⟨by decide +kernel, rfl⟩
theorem eX2_choose_63 : Dc cX2_choose 63 (.iload 7) 2 65 := ⟨by decide +kernel, rfl⟩
theorem eX2_choose_65 : Dc cX2_choose 65 (.iadd) 1 66 := ⟨by decide +kernel, rfl⟩
theorem eX2_choose_66 : Dc cX2_choose 66 (.iaload) 1 67 := ⟨by decide +kernel, rfl⟩
theorem eX2_choose_67 : Dc cX2_choose 67 (.iadd) 1 68 := ⟨by decide +kernel, rfl⟩
theorem eX2_choose_68 : Dc cX2_choose 68 (.istore 8) 2 70 := ⟨by decide +kernel, rfl⟩
theorem eX2_choose_70 : Dc cX2_choose 70 (.iload 7) 2 72 := ⟨by decide +kernel, rfl⟩
theorem eX2_choose_72 : Dc cX2_choose 72 (.ifCond .eq 10) 3 75 := ⟨by decide +kernel, rfl⟩
theorem eX2_choose_75 : Dc cX2_choose 75 (.iload 8) 2 77 := ⟨by decide +kernel, rfl⟩
theorem eX2_choose_77 : Dc cX2_choose 77 (.iload 6) 2 79 := ⟨by decide +kernel, rfl⟩
theorem eX2_choose_79 : Dc cX2_choose 79 (.if_icmp .le 16) 3 82 := ⟨by decide +kernel, rfl⟩
theorem eX2_choose_82 : Dc cX2_choose 82 (.iload 8) 2 84 := ⟨by decide +kernel, rfl⟩
theorem eX2_choose_84 : Dc cX2_choose 84 (.istore 6) 2 86 := ⟨by decide +kernel, rfl⟩
theorem eX2_choose_86 : Dc cX2_choose 86 (.aload_n 0) 1 87 := ⟨by decide +kernel, rfl⟩
theorem eX2_choose_87 : Dc cX2_choose 87 (.getfield 21) 3 90 := ⟨by decide +kernel, rfl⟩
theorem eX2_choose_90 : Dc cX2_choose 90 (.iload 5) 2 92 := ⟨by decide +kernel, rfl⟩
theorem eX2_choose_92 : Dc cX2_choose 92 (.iload 7) 2 94 := ⟨by decide +kernel, rfl⟩
theorem eX2_choose_94 : Dc cX2_choose 94 (.iastore) 1 95 := ⟨by decide +kernel, rfl⟩
theorem eX2_choose_95 : Dc cX2_choose 95 (.iinc 7 1) 3 98 := ⟨by decide +kernel, rfl⟩
theorem eX2_choose_98 : Dc cX2_choose 98 (.goto (-71)) 3 101 := ⟨by decide +kernel, rfl⟩
theorem eX2_choose_101 : Dc cX2_choose 101 (.aload_n 0) 1 102 := ⟨by decide +kernel, rfl⟩
theorem eX2_choose_102 : Dc cX2_choose 102 (.getfield 18) 3 105 := ⟨by decide +kernel, rfl⟩
theorem eX2_choose_105 : Dc cX2_choose 105 (.iload 5) 2 107 := ⟨by decide +kernel, rfl⟩
theorem eX2_choose_107 : Dc cX2_choose 107 (.iload 6) 2 109 := ⟨by decide +kernel, rfl⟩
theorem eX2_choose_109 : Dc cX2_choose 109 (.iastore) 1 110 := ⟨by decide +kernel, rfl⟩
theorem eX2_choose_110 : Dc cX2_choose 110 (.return_) 1 111 := ⟨by decide +kernel, rfl⟩
def fX2_choose_L27 (k : Int32 → SS → Option (SS)) (a1 : Int32) (a4 : Int32) (a5 : Int32) : Nat → Int32 → Int32 → SS → Option (SS)
  | 0, _, _, _ => none
  | n + 1, a6, a7, c => if a4 < a7 then k a6 c else ald 66 (c.2 9) (a5 + a7) (fun v2 => ald 6 (c.2 10) a1 (fun v3 => ald 77 (c.2 11) ((a5 + (11 : Int32)) + a7) (fun v4 => jn (fun (x5 : Int32) (c6 : SS) => fX2_choose_L27 k a1 a4 a5 n x5 (a7 + (1 : Int32)) c6) (fun j95 => jn (fun (_ : Unit) => ckb 66 a5 (j95 ((v2 + (v3 * a7)) + v4) (sA c 12 (a5).toNatClampNeg a7))) (fun j82 => if a7 = (0 : Int32) then j82 () else if ((v2 + (v3 * a7)) + v4) ≤ a6 then j95 a6 c else j82 ())))))
def fX2_choose (c : SS) (p1 : Int32) (p2 : Int32) (p3 : Int32) : Option (SS) := fX2_choose_L27 (fun (x10 : Int32) (c11 : SS) => ckb 77 ((p1 * (11 : Int32)) + p2) (some (sA c11 11 (((p1 * (11 : Int32)) + p2)).toNatClampNeg x10))) p1 (fX5_mayHold c p1 (p3 - p2)) ((p1 * (11 : Int32)) + p2) fu (0 : Int32) (0 : Int32) c
set_option maxRecDepth 20000 in
theorem ctX2_choose_L27 (l : Launch) (G : tg_G) (A : Nat → Nat) (k : Int32 → SS → Option (SS)) (a1 : Int32) (a4 : Int32) (a5 : Int32) {z : SS} (hk : ∀ (e6 : Int32) (ec : SS), k e6 ec = some z → V l G (tg_Zm G (fun v w1 => v = none ∧ w1 = wC G A z) 0 0) tg_E0 (tg_R 2 43) "TramGod$Planner" "choose" cX2_choose 9 none 101 [(0, .ref (A 13)), (5, .int a5), (6, .int e6)] [] (wC G A ec) 0 0) : ∀ (n : Nat) (a6 : Int32) (a7 : Int32) (c : SS), fX2_choose_L27 k a1 a4 a5 n a6 a7 c = some z → V l G (tg_Zm G (fun v w1 => v = none ∧ w1 = wC G A z) 0 0) tg_E0 (tg_R 2 43) "TramGod$Planner" "choose" cX2_choose 9 none 27 [(0, .ref (A 13)), (1, .int a1), (4, .int a4), (5, .int a5), (6, .int a6), (7, .int a7)] [] (wC G A c) 0 0 := by
  intro n
  induction n with
  | zero => intro a6 a7 c h; exact absurd h (by simp [fX2_choose_L27])
  | succ n ih =>
    intro a6 a7 c h
    unfold fX2_choose_L27 at h
    refine V_iload eX2_choose_27 5 rfl ?_
    refine V_iload eX2_choose_29 2 rfl ?_
    refine V_icmp_gt (tgt := 101) eX2_choose_31 rfl (fun hb1 => ?_) (fun hb1 => ?_)
    · replace h := (if_pos hb1).symm.trans h
      refine V_lv (lv' := [(0, .ref (A 13)), (5, .int a5), (6, .int a6)]) [0, 3, 4] rfl ?_
      exact hk a6 c h
    · replace h := (if_neg hb1).symm.trans h
      refine V_aload_n eX2_choose_34 0 rfl ?_
      refine V_get (v := .ref (A 14)) eX2_choose_35 inX2 13 rfl rfl 2 (Nat.le_of_ble_eq_true rfl) tw_135 rfl ?_
      refine V_iload eX2_choose_38 3 rfl ?_
      refine V_iload eX2_choose_40 5 rfl ?_
      refine V_iadd eX2_choose_42 ?_
      obtain ⟨v2, hi2, ev2, h⟩ := ald_some h
      refine V_ialdv eX2_choose_43 14 rfl hi2 ev2 ?_
      refine V_aload_n eX2_choose_44 0 rfl ?_
      refine V_get (v := .ref (A 15)) eX2_choose_45 inX2 13 rfl rfl 3 (Nat.le_of_ble_eq_true rfl) tw_136 rfl ?_
      refine V_iload_n eX2_choose_48 1 rfl ?_
      obtain ⟨v3, hi3, ev3, h⟩ := ald_some h
      refine V_ialdv eX2_choose_49 15 rfl hi3 ev3 ?_
      refine V_iload eX2_choose_50 5 rfl ?_
      refine V_imul eX2_choose_52 ?_
      refine V_iadd eX2_choose_53 ?_
      refine V_aload_n eX2_choose_54 0 rfl ?_
      refine V_get (v := .ref (A 16)) eX2_choose_55 inX2 13 rfl rfl 4 (Nat.le_of_ble_eq_true rfl) tw_138 rfl ?_
      refine V_iload eX2_choose_58 3 rfl ?_
      refine V_bipush (v := (11 : Int32)) eX2_choose_60 rfl ?_
      refine V_iadd eX2_choose_62 ?_
      refine V_iload eX2_choose_63 5 rfl ?_
      refine V_iadd eX2_choose_65 ?_
      obtain ⟨v4, hi4, ev4, h⟩ := ald_some h
      refine V_ialdv eX2_choose_66 16 rfl hi4 ev4 ?_
      refine V_iadd eX2_choose_67 ?_
      refine V_istore (lv' := [(8, .int ((v2 + (v3 * a7)) + v4)), (0, .ref (A 13)), (1, .int a1), (4, .int a4), (5, .int a5), (6, .int a6), (7, .int a7)]) eX2_choose_68 (Nat.le_of_ble_eq_true rfl) rfl ?_
      refine V_iload eX2_choose_70 6 rfl ?_
      refine jn_elim h (fun j => ∀ (x5 : Int32) (c6 : SS), j x5 c6 = some z → V l G (tg_Zm G (fun v w1 => v = none ∧ w1 = wC G A z) 0 0) tg_E0 (tg_R 2 43) "TramGod$Planner" "choose" cX2_choose 9 none 95 [(0, .ref (A 13)), (1, .int a1), (4, .int a4), (5, .int a5), (6, .int x5), (7, .int a7)] [] (wC G A c6) 0 0) ?_ (fun j95 hj95 h => ?_)
      · intro x5 c6 h
        refine V_iinc (v := (a7 + (1 : Int32))) (lv' := [(7, .int (a7 + (1 : Int32))), (0, .ref (A 13)), (1, .int a1), (4, .int a4), (5, .int a5), (6, .int x5)]) eX2_choose_95 5 rfl rfl (Nat.le_of_ble_eq_true rfl) rfl ?_
        refine V_goto (tgt := 27) eX2_choose_98 rfl ?_
        refine V_lv (lv' := [(0, .ref (A 13)), (1, .int a1), (4, .int a4), (5, .int a5), (6, .int x5), (7, .int (a7 + (1 : Int32)))]) [1, 2, 3, 4, 5, 0] rfl ?_
        exact ih x5 (a7 + (1 : Int32)) c6 h
      refine jn_elim h (fun j => j () = some z → V l G (tg_Zm G (fun v w1 => v = none ∧ w1 = wC G A z) 0 0) tg_E0 (tg_R 2 43) "TramGod$Planner" "choose" cX2_choose 9 none 82 [(0, .ref (A 13)), (1, .int a1), (4, .int a4), (5, .int a5), (7, .int a7), (8, .int ((v2 + (v3 * a7)) + v4))] [] (wC G A c) 0 0) ?_ (fun j82 hj82 h => ?_)
      · intro h
        refine V_iload eX2_choose_82 5 rfl ?_
        refine V_istore (lv' := [(6, .int ((v2 + (v3 * a7)) + v4)), (0, .ref (A 13)), (1, .int a1), (4, .int a4), (5, .int a5), (7, .int a7), (8, .int ((v2 + (v3 * a7)) + v4))]) eX2_choose_84 (Nat.le_of_ble_eq_true rfl) rfl ?_
        refine V_aload_n eX2_choose_86 1 rfl ?_
        refine V_get (v := .ref (A 17)) eX2_choose_87 inX2 13 rfl rfl 5 (Nat.le_of_ble_eq_true rfl) tw_139 rfl ?_
        refine V_iload eX2_choose_90 4 rfl ?_
        refine V_iload eX2_choose_92 5 rfl ?_
        obtain ⟨hi7, h⟩ := ckb_some h
        refine V_iast (w' := wC G A (sA c 12 (a5).toNatClampNeg a7)) eX2_choose_94 17 rfl hi7 rfl ?_
        refine V_lv (lv' := [(0, .ref (A 13)), (1, .int a1), (4, .int a4), (5, .int a5), (6, .int ((v2 + (v3 * a7)) + v4)), (7, .int a7)]) [1, 2, 3, 4, 0, 5] rfl ?_
        exact hj95 ((v2 + (v3 * a7)) + v4) (sA c 12 (a5).toNatClampNeg a7) h
      refine V_if_eq (tgt := 82) eX2_choose_72 rfl (fun hb8 => ?_) (fun hb8 => ?_)
      · replace h := (if_pos hb8).symm.trans h
        refine V_lv (lv' := [(0, .ref (A 13)), (1, .int a1), (4, .int a4), (5, .int a5), (7, .int a7), (8, .int ((v2 + (v3 * a7)) + v4))]) [1, 2, 3, 4, 6, 0] rfl ?_
        exact hj82 h
      · replace h := (if_neg hb8).symm.trans h
        refine V_iload eX2_choose_75 0 rfl ?_
        refine V_iload eX2_choose_77 5 rfl ?_
        refine V_icmp_le (tgt := 95) eX2_choose_79 rfl (fun hb9 => ?_) (fun hb9 => ?_)
        · replace h := (if_pos hb9).symm.trans h
          refine V_lv (lv' := [(0, .ref (A 13)), (1, .int a1), (4, .int a4), (5, .int a5), (6, .int a6), (7, .int a7)]) [1, 2, 3, 4, 5, 6] rfl ?_
          exact hj95 a6 c h
        · replace h := (if_neg hb9).symm.trans h
          refine V_lv (lv' := [(0, .ref (A 13)), (1, .int a1), (4, .int a4), (5, .int a5), (7, .int a7), (8, .int ((v2 + (v3 * a7)) + v4))]) [1, 2, 3, 4, 6, 0] rfl ?_
          exact hj82 h
set_option maxRecDepth 20000 in
theorem ctX2_choose (l : Launch) (G : tg_G) (A : Nat → Nat) (c : SS) (p1 : Int32) (p2 : Int32) (p3 : Int32) {z : SS} (h : fX2_choose c p1 p2 p3 = some z) : Mt l G yX2_choose cX2_choose 9 none (tg_R 2 43) [.ref (A 13), .int p1, .int p2, .int p3] (wC G A c) (fun v w1 => v = none ∧ w1 = wC G A z) := by
  refine Mt_of2 (own := "TramGod$Planner") (nm := "choose") rfl rfl rfl (Nat.le_of_ble_eq_true rfl) (lv := [(0, .ref (A 13)), (1, .int p1), (2, .int p2), (3, .int p3)]) rfl ?_
  unfold fX2_choose at h
  refine V_aload_n eX2_choose_0 0 rfl ?_
  refine V_get (v := .ref (A 3)) eX2_choose_1 inX2 13 rfl rfl 0 (Nat.le_of_ble_eq_true rfl) tw_133 rfl ?_
  refine V_iload_n eX2_choose_4 1 rfl ?_
  refine V_iload_n eX2_choose_5 3 rfl ?_
  refine V_iload_n eX2_choose_6 2 rfl ?_
  refine V_isub eX2_choose_7 ?_
  refine V_callVi (rest := []) eX2_choose_8 (ctX5_mayHold l G A c p1 (p3 - p2) rfl) tc_438 tw_435 tw_3 tw_436 tw_437 3 rfl rfl hdX5_mayHold rfl ⟨Nat.le_of_ble_eq_true rfl, Nat.le_of_ble_eq_true rfl⟩ rfl (Nat.le_of_ble_eq_true rfl) ⟨Nat.zero_le _, Nat.zero_le _⟩ ?_
  refine V_istore (lv' := [(4, .int (fX5_mayHold c p1 (p3 - p2))), (0, .ref (A 13)), (1, .int p1), (2, .int p2), (3, .int p3)]) eX2_choose_11 (Nat.le_of_ble_eq_true rfl) rfl ?_
  refine V_iload_n eX2_choose_13 2 rfl ?_
  refine V_bipush (v := (11 : Int32)) eX2_choose_14 rfl ?_
  refine V_imul eX2_choose_16 ?_
  refine V_iload_n eX2_choose_17 3 rfl ?_
  refine V_iadd eX2_choose_18 ?_
  refine V_istore (lv' := [(5, .int ((p1 * (11 : Int32)) + p2)), (4, .int (fX5_mayHold c p1 (p3 - p2))), (0, .ref (A 13)), (1, .int p1), (2, .int p2), (3, .int p3)]) eX2_choose_19 (Nat.le_of_ble_eq_true rfl) rfl ?_
  refine V_iconst (v := (0 : Int32)) eX2_choose_21 rfl ?_
  refine V_istore (lv' := [(6, .int (0 : Int32)), (5, .int ((p1 * (11 : Int32)) + p2)), (4, .int (fX5_mayHold c p1 (p3 - p2))), (0, .ref (A 13)), (1, .int p1), (2, .int p2), (3, .int p3)]) eX2_choose_22 (Nat.le_of_ble_eq_true rfl) rfl ?_
  refine V_iconst (v := (0 : Int32)) eX2_choose_24 rfl ?_
  refine V_istore (lv' := [(7, .int (0 : Int32)), (6, .int (0 : Int32)), (5, .int ((p1 * (11 : Int32)) + p2)), (4, .int (fX5_mayHold c p1 (p3 - p2))), (0, .ref (A 13)), (1, .int p1), (2, .int p2), (3, .int p3)]) eX2_choose_25 (Nat.le_of_ble_eq_true rfl) rfl ?_
  refine V_lv (lv' := [(0, .ref (A 13)), (1, .int p1), (4, .int (fX5_mayHold c p1 (p3 - p2))), (5, .int ((p1 * (11 : Int32)) + p2)), (6, .int (0 : Int32)), (7, .int (0 : Int32))]) [4, 5, 3, 2, 1, 0] rfl ?_
  refine ctX2_choose_L27 l G A _ p1 (fX5_mayHold c p1 (p3 - p2)) ((p1 * (11 : Int32)) + p2) ?_ fu (0 : Int32) (0 : Int32) c h
  · intro x10 c11 h
    refine V_aload_n eX2_choose_101 0 rfl ?_
    refine V_get (v := .ref (A 16)) eX2_choose_102 inX2 13 rfl rfl 4 (Nat.le_of_ble_eq_true rfl) tw_138 rfl ?_
    refine V_iload eX2_choose_105 1 rfl ?_
    refine V_iload eX2_choose_107 2 rfl ?_
    obtain ⟨hi12, h⟩ := ckb_some h
    refine V_iast (w' := wC G A (sA c11 11 (((p1 * (11 : Int32)) + p2)).toNatClampNeg x10)) eX2_choose_109 16 rfl hi12 rfl ?_
    obtain rfl := Option.some.inj h
    exact V_vret eX2_choose_110 rfl ⟨rfl, rfl⟩
theorem hdX2_solve : yX2_solve.cls ≠ "java/lang/invoke/MethodHandle" ∧ yX2_solve.cls ≠ "java/lang/invoke/VarHandle" ∧ (parseMethodDescriptor yX2_solve.desc).map (fun d => d.parameters.length) = some 1 := by decide +kernel
theorem eX2_solve_0 : Dc cX2_solve 0 (.aload_n 0) 1 1 := ⟨by decide +kernel, rfl⟩
theorem eX2_solve_1 : Dc cX2_solve 1 (.aload_n 0) 1 2 := ⟨by decide +kernel, rfl⟩
theorem eX2_solve_2 : Dc cX2_solve 2 (.getfield 24) 3 5 := ⟨by decide +kernel, rfl⟩
theorem eX2_solve_5 : Dc cX2_solve 5 (.getfield 52) 3 8 := ⟨by decide +kernel, rfl⟩
theorem eX2_solve_8 : Dc cX2_solve 8 (.iconst 0) 1 9 := ⟨by decide +kernel, rfl⟩
theorem eX2_solve_9 : Dc cX2_solve 9 (.invokevirtual 56) 3 12 := ⟨by decide +kernel, rfl⟩
theorem eX2_solve_12 : Dc cX2_solve 12 (.aload_n 0) 1 13 := ⟨by decide +kernel, rfl⟩
theorem eX2_solve_13 : Dc cX2_solve 13 (.getfield 24) 3 16 := ⟨by decide +kernel, rfl⟩
theorem eX2_solve_16 : Dc cX2_solve 16 (.getfield 52) 3 19 := ⟨by decide +kernel, rfl⟩
theorem eX2_solve_19 : Dc cX2_solve 19 (.iconst 1) 1 20 := ⟨by decide +kernel, rfl⟩
theorem eX2_solve_20 : Dc cX2_solve 20 (.isub) 1 21 := ⟨by decide +kernel, rfl⟩
theorem eX2_solve_21 : Dc cX2_solve 21 (.istore_n 2) 1 22 := ⟨by decide +kernel, rfl⟩
theorem eX2_solve_22 : Dc cX2_solve 22 (.iload_n 2) 1 23 := ⟨by decide +kernel, rfl⟩
theorem eX2_solve_23 : Dc cX2_solve 23 (.ifCond .lt 35) 3 26 := ⟨by decide +kernel, rfl⟩
theorem eX2_solve_26 : Dc cX2_solve 26 (.iconst 0) 1 27 := ⟨by decide +kernel, rfl⟩
theorem eX2_solve_27 : Dc cX2_solve 27 (.istore_n 3) 1 28 := ⟨by decide +kernel, rfl⟩
theorem eX2_solve_28 : Dc cX2_solve 28 (.iload_n 3) 1 29 := ⟨by decide +kernel, rfl⟩
theorem eX2_solve_29 : Dc cX2_solve 29 (.iload_n 1) 1 30 := ⟨by decide +kernel, rfl⟩
theorem eX2_solve_30 : Dc cX2_solve 30 (.if_icmp .gt 22) 3 33 := ⟨by decide +kernel, rfl⟩
theorem eX2_solve_33 : Dc cX2_solve 33 (.iload_n 3) 1 34 := ⟨by decide +kernel, rfl⟩
theorem eX2_solve_34 : Dc cX2_solve 34 (.bipush 11) 2 36 := ⟨by decide +kernel, rfl⟩
theorem eX2_solve_36 : Dc cX2_solve 36 (.if_icmp .ge 16) 3 39 := ⟨by decide +kernel, rfl⟩
theorem eX2_solve_39 : Dc cX2_solve 39 (.aload_n 0) 1 40 := ⟨by decide +kernel, rfl⟩
theorem eX2_solve_40 : Dc cX2_solve 40 (.iload_n 2) 1 41 := ⟨by decide +kernel, rfl⟩
theorem eX2_solve_41 : Dc cX2_solve 41 (.iload_n 3) 1 42 := ⟨by decide +kernel, rfl⟩
theorem eX2_solve_42 : Dc cX2_solve 42 (.iload_n 1) 1 43 := ⟨by decide +kernel, rfl⟩
theorem eX2_solve_43 : Dc cX2_solve 43 (.invokevirtual 60) 3 46 := ⟨by decide +kernel, rfl⟩
theorem eX2_solve_46 : Dc cX2_solve 46 (.iinc 3 1) 3 49 := ⟨by decide +kernel, rfl⟩
theorem eX2_solve_49 : Dc cX2_solve 49 (.goto (-21)) 3 52 := ⟨by decide +kernel, rfl⟩
theorem eX2_solve_52 : Dc cX2_solve 52 (.iinc 2 (-1)) 3 55 := ⟨by decide +kernel, rfl⟩
theorem eX2_solve_55 : Dc cX2_solve 55 (.goto (-33)) 3 58 := ⟨by decide +kernel, rfl⟩
theorem eX2_solve_58 : Dc cX2_solve 58 (.aload_n 0) 1 59 := ⟨by decide +kernel, rfl⟩
theorem eX2_solve_59 : Dc cX2_solve 59 (.getfield 18) 3 62 := ⟨by decide +kernel, rfl⟩
theorem eX2_solve_62 : Dc cX2_solve 62 (.iconst 0) 1 63 := ⟨by decide +kernel, rfl⟩
theorem eX2_solve_63 : Dc cX2_solve 63 (.iaload) 1 64 := ⟨by decide +kernel, rfl⟩
theorem eX2_solve_64 : Dc cX2_solve 64 (.ireturn) 1 65 := ⟨by decide +kernel, rfl⟩
def fX2_solve_L28 (k : SS → Option (Int32 × SS)) (a1 : Int32) (a2 : Int32) : Nat → Int32 → SS → Option (Int32 × SS)
  | 0, _, _ => none
  | n + 1, a3, c => if a1 < a3 then k c else if (11 : Int32) ≤ a3 then k c else Option.bind (fX2_choose c a2 a3 a1) (fun q5 => fX2_solve_L28 k a1 a2 n (a3 + (1 : Int32)) q5)
def fX2_solve_L22 (k : SS → Option (Int32 × SS)) (a1 : Int32) : Nat → Int32 → SS → Option (Int32 × SS)
  | 0, _, _ => none
  | n + 1, a2, c => if a2 < (0 : Int32) then k c else fX2_solve_L28 (fun (c6 : SS) => fX2_solve_L22 k a1 n (a2 + (-1 : Int32)) c6) a1 a2 fu (0 : Int32) c
def fX2_solve (c : SS) (p1 : Int32) : Option (Int32 × SS) := Option.bind (fX2_startRow c (c.1 1) (0 : Int32)) (fun q1 => fX2_solve_L22 (fun (c7 : SS) => ald 77 (c7.2 11) (0 : Int32) (fun v8 => some (v8, c7))) p1 fu ((q1.1 1) - (1 : Int32)) q1)
set_option maxRecDepth 20000 in
theorem ctX2_solve_L28 (l : Launch) (G : tg_G) (A : Nat → Nat) (k : SS → Option (Int32 × SS)) (a1 : Int32) (a2 : Int32) {z : Int32 × SS} (hk : ∀ (ec : SS), k ec = some z → V l G (tg_Zm G (fun v w1 => v = some (.int z.1) ∧ w1 = wC G A z.2) 0 0) tg_E0 (tg_R 3 71) "TramGod$Planner" "solve" cX2_solve 4 (some .int) 52 [(0, .ref (A 13)), (1, .int a1), (2, .int a2)] [] (wC G A ec) 0 0) : ∀ (n : Nat) (a3 : Int32) (c : SS), fX2_solve_L28 k a1 a2 n a3 c = some z → V l G (tg_Zm G (fun v w1 => v = some (.int z.1) ∧ w1 = wC G A z.2) 0 0) tg_E0 (tg_R 3 71) "TramGod$Planner" "solve" cX2_solve 4 (some .int) 28 [(0, .ref (A 13)), (1, .int a1), (2, .int a2), (3, .int a3)] [] (wC G A c) 0 0 := by
  intro n
  induction n with
  | zero => intro a3 c h; exact absurd h (by simp [fX2_solve_L28])
  | succ n ih =>
    intro a3 c h
    unfold fX2_solve_L28 at h
    refine V_iload_n eX2_solve_28 3 rfl ?_
    refine V_iload_n eX2_solve_29 1 rfl ?_
    refine V_icmp_gt (tgt := 52) eX2_solve_30 rfl (fun hb3 => ?_) (fun hb3 => ?_)
    · replace h := (if_pos hb3).symm.trans h
      refine V_lv (lv' := [(0, .ref (A 13)), (1, .int a1), (2, .int a2)]) [0, 1, 2] rfl ?_
      exact hk c h
    · replace h := (if_neg hb3).symm.trans h
      refine V_iload_n eX2_solve_33 3 rfl ?_
      refine V_bipush (v := (11 : Int32)) eX2_solve_34 rfl ?_
      refine V_icmp_ge (tgt := 52) eX2_solve_36 rfl (fun hb4 => ?_) (fun hb4 => ?_)
      · replace h := (if_pos hb4).symm.trans h
        refine V_lv (lv' := [(0, .ref (A 13)), (1, .int a1), (2, .int a2)]) [0, 1, 2] rfl ?_
        exact hk c h
      · replace h := (if_neg hb4).symm.trans h
        refine V_aload_n eX2_solve_39 0 rfl ?_
        refine V_iload_n eX2_solve_40 2 rfl ?_
        refine V_iload_n eX2_solve_41 3 rfl ?_
        refine V_iload_n eX2_solve_42 1 rfl ?_
        obtain ⟨q5, hc5, h⟩ := Option.bind_eq_some_iff.mp h
        refine V_callVv (rest := []) eX2_solve_43 (ctX2_choose l G A c a2 a3 a1 hc5) tc_434 tw_431 tw_5 tw_433 ts_10 13 rfl rfl hdX2_choose rfl ⟨Nat.le_of_ble_eq_true rfl, Nat.le_of_ble_eq_true rfl⟩ rfl (Nat.le_of_ble_eq_true rfl) ⟨Nat.zero_le _, Nat.zero_le _⟩ ?_
        refine V_iinc (v := (a3 + (1 : Int32))) (lv' := [(3, .int (a3 + (1 : Int32))), (0, .ref (A 13)), (1, .int a1), (2, .int a2)]) eX2_solve_46 3 rfl rfl (Nat.le_of_ble_eq_true rfl) rfl ?_
        refine V_goto (tgt := 28) eX2_solve_49 rfl ?_
        refine V_lv (lv' := [(0, .ref (A 13)), (1, .int a1), (2, .int a2), (3, .int (a3 + (1 : Int32)))]) [1, 2, 3, 0] rfl ?_
        exact ih (a3 + (1 : Int32)) q5 h
set_option maxRecDepth 20000 in
theorem ctX2_solve_L22 (l : Launch) (G : tg_G) (A : Nat → Nat) (k : SS → Option (Int32 × SS)) (a1 : Int32) {z : Int32 × SS} (hk : ∀ (ec : SS), k ec = some z → V l G (tg_Zm G (fun v w1 => v = some (.int z.1) ∧ w1 = wC G A z.2) 0 0) tg_E0 (tg_R 3 71) "TramGod$Planner" "solve" cX2_solve 4 (some .int) 58 [(0, .ref (A 13))] [] (wC G A ec) 0 0) : ∀ (n : Nat) (a2 : Int32) (c : SS), fX2_solve_L22 k a1 n a2 c = some z → V l G (tg_Zm G (fun v w1 => v = some (.int z.1) ∧ w1 = wC G A z.2) 0 0) tg_E0 (tg_R 3 71) "TramGod$Planner" "solve" cX2_solve 4 (some .int) 22 [(0, .ref (A 13)), (1, .int a1), (2, .int a2)] [] (wC G A c) 0 0 := by
  intro n
  induction n with
  | zero => intro a2 c h; exact absurd h (by simp [fX2_solve_L22])
  | succ n ih =>
    intro a2 c h
    unfold fX2_solve_L22 at h
    refine V_iload_n eX2_solve_22 2 rfl ?_
    refine V_if_lt (tgt := 58) eX2_solve_23 rfl (fun hb2 => ?_) (fun hb2 => ?_)
    · replace h := (if_pos hb2).symm.trans h
      refine V_lv (lv' := [(0, .ref (A 13))]) [0] rfl ?_
      exact hk c h
    · replace h := (if_neg hb2).symm.trans h
      refine V_iconst (v := (0 : Int32)) eX2_solve_26 rfl ?_
      refine V_istore_n (lv' := [(3, .int (0 : Int32)), (0, .ref (A 13)), (1, .int a1), (2, .int a2)]) eX2_solve_27 (Nat.le_of_ble_eq_true rfl) rfl ?_
      refine V_lv (lv' := [(0, .ref (A 13)), (1, .int a1), (2, .int a2), (3, .int (0 : Int32))]) [1, 2, 3, 0] rfl ?_
      refine ctX2_solve_L28 l G A _ a1 a2 ?_ fu (0 : Int32) c h
      · intro c6 h
        refine V_iinc (v := (a2 + (-1 : Int32))) (lv' := [(2, .int (a2 + (-1 : Int32))), (0, .ref (A 13)), (1, .int a1)]) eX2_solve_52 2 rfl rfl (Nat.le_of_ble_eq_true rfl) rfl ?_
        refine V_goto (tgt := 22) eX2_solve_55 rfl ?_
        refine V_lv (lv' := [(0, .ref (A 13)), (1, .int a1), (2, .int (a2 + (-1 : Int32)))]) [1, 2, 0] rfl ?_
        exact ih (a2 + (-1 : Int32)) c6 h
set_option maxRecDepth 20000 in
theorem ctX2_solve (l : Launch) (G : tg_G) (A : Nat → Nat) (c : SS) (p1 : Int32) {z : Int32 × SS} (h : fX2_solve c p1 = some z) : Mt l G yX2_solve cX2_solve 4 (some .int) (tg_R 3 71) [.ref (A 13), .int p1] (wC G A c) (fun v w1 => v = some (.int z.1) ∧ w1 = wC G A z.2) := by
  refine Mt_of2 (own := "TramGod$Planner") (nm := "solve") rfl rfl rfl (Nat.le_of_ble_eq_true rfl) (lv := [(0, .ref (A 13)), (1, .int p1)]) rfl ?_
  unfold fX2_solve at h
  refine V_aload_n eX2_solve_0 0 rfl ?_
  refine V_aload_n eX2_solve_1 0 rfl ?_
  refine V_get (v := .ref (A 3)) eX2_solve_2 inX2 13 rfl rfl 0 (Nat.le_of_ble_eq_true rfl) tw_133 rfl ?_
  refine V_get (v := .int (c.1 1)) eX2_solve_5 inX5 3 rfl rfl 0 (Nat.le_of_ble_eq_true rfl) tw_45 rfl ?_
  refine V_iconst (v := (0 : Int32)) eX2_solve_8 rfl ?_
  obtain ⟨q1, hc1, h⟩ := Option.bind_eq_some_iff.mp h
  refine V_callVv (rest := []) eX2_solve_9 (ctX2_startRow l G A c (c.1 1) (0 : Int32) hc1) tc_430 tw_427 tw_5 tw_429 ts_9 13 rfl rfl hdX2_startRow rfl ⟨Nat.le_of_ble_eq_true rfl, Nat.le_of_ble_eq_true rfl⟩ rfl (Nat.le_of_ble_eq_true rfl) ⟨Nat.zero_le _, Nat.zero_le _⟩ ?_
  refine V_aload_n eX2_solve_12 0 rfl ?_
  refine V_get (v := .ref (A 3)) eX2_solve_13 inX2 13 rfl rfl 0 (Nat.le_of_ble_eq_true rfl) tw_133 rfl ?_
  refine V_get (v := .int (q1.1 1)) eX2_solve_16 inX5 3 rfl rfl 0 (Nat.le_of_ble_eq_true rfl) tw_45 rfl ?_
  refine V_iconst (v := (1 : Int32)) eX2_solve_19 rfl ?_
  refine V_isub eX2_solve_20 ?_
  refine V_istore_n (lv' := [(2, .int ((q1.1 1) - (1 : Int32))), (0, .ref (A 13)), (1, .int p1)]) eX2_solve_21 (Nat.le_of_ble_eq_true rfl) rfl ?_
  refine V_lv (lv' := [(0, .ref (A 13)), (1, .int p1), (2, .int ((q1.1 1) - (1 : Int32)))]) [1, 2, 0] rfl ?_
  refine ctX2_solve_L22 l G A _ p1 ?_ fu ((q1.1 1) - (1 : Int32)) q1 h
  · intro c7 h
    refine V_aload_n eX2_solve_58 0 rfl ?_
    refine V_get (v := .ref (A 16)) eX2_solve_59 inX2 13 rfl rfl 4 (Nat.le_of_ble_eq_true rfl) tw_138 rfl ?_
    refine V_iconst (v := (0 : Int32)) eX2_solve_62 rfl ?_
    obtain ⟨v8, hi8, ev8, h⟩ := ald_some h
    refine V_ialdv eX2_solve_63 16 rfl hi8 ev8 ?_
    obtain rfl := Option.some.inj h
    exact V_ret eX2_solve_64 rfl ⟨rfl, rfl⟩
theorem hdX6_mostGood : yX6_mostGood.cls ≠ "java/lang/invoke/MethodHandle" ∧ yX6_mostGood.cls ≠ "java/lang/invoke/VarHandle" ∧ (parseMethodDescriptor yX6_mostGood.desc).map (fun d => d.parameters.length) = some 1 := by decide +kernel
theorem eX6_mostGood_0 : Dc cX6_mostGood 0 (.aload_n 0) 1 1 := ⟨by decide +kernel, rfl⟩
theorem eX6_mostGood_1 : Dc cX6_mostGood 1 (.getfield 32) 3 4 := ⟨by decide +kernel, rfl⟩
theorem eX6_mostGood_4 : Dc cX6_mostGood 4 (.aload_n 0) 1 5 := ⟨by decide +kernel, rfl⟩
theorem eX6_mostGood_5 : Dc cX6_mostGood 5 (.getfield 19) 3 8 := ⟨by decide +kernel, rfl⟩
theorem eX6_mostGood_8 : Dc cX6_mostGood 8 (.getfield 94) 3 11 := ⟨by decide +kernel, rfl⟩
theorem eX6_mostGood_11 : Dc cX6_mostGood 11 (.invokevirtual 182) 3 14 := ⟨by decide +kernel, rfl⟩
theorem eX6_mostGood_14 : Dc cX6_mostGood 14 (.aload_n 0) 1 15 := ⟨by decide +kernel, rfl⟩
theorem eX6_mostGood_15 : Dc cX6_mostGood 15 (.getfield 41) 3 18 := ⟨by decide +kernel, rfl⟩
theorem eX6_mostGood_18 : Dc cX6_mostGood 18 (.aload_n 0) 1 19 := ⟨by decide +kernel, rfl⟩
theorem eX6_mostGood_19 : Dc cX6_mostGood 19 (.getfield 19) 3 22 := ⟨by decide +kernel, rfl⟩
theorem eX6_mostGood_22 : Dc cX6_mostGood 22 (.getfield 100) 3 25 := ⟨by decide +kernel, rfl⟩
theorem eX6_mostGood_25 : Dc cX6_mostGood 25 (.iload_n 1) 1 26 := ⟨by decide +kernel, rfl⟩
theorem eX6_mostGood_26 : Dc cX6_mostGood 26 (.invokevirtual 292) 3 29 := ⟨by decide +kernel, rfl⟩
theorem eX6_mostGood_29 : Dc cX6_mostGood 29 (.aload_n 0) 1 30 := ⟨by decide +kernel, rfl⟩
theorem eX6_mostGood_30 : Dc cX6_mostGood 30 (.getfield 41) 3 33 := ⟨by decide +kernel, rfl⟩
theorem eX6_mostGood_33 : Dc cX6_mostGood 33 (.iconst 0) 1 34 := ⟨by decide +kernel, rfl⟩
theorem eX6_mostGood_34 : Dc cX6_mostGood 34 (.invokevirtual 230) 3 37 := ⟨by decide +kernel, rfl⟩
theorem eX6_mostGood_37 : Dc cX6_mostGood 37 (.aload_n 0) 1 38 := ⟨by decide +kernel, rfl⟩
theorem eX6_mostGood_38 : Dc cX6_mostGood 38 (.getfield 41) 3 41 := ⟨by decide +kernel, rfl⟩
theorem eX6_mostGood_41 : Dc cX6_mostGood 41 (.iload_n 1) 1 42 := ⟨by decide +kernel, rfl⟩
theorem eX6_mostGood_42 : Dc cX6_mostGood 42 (.invokevirtual 236) 3 45 := ⟨by decide +kernel, rfl⟩
theorem eX6_mostGood_45 : Dc cX6_mostGood 45 (.ireturn) 1 46 := ⟨by decide +kernel, rfl⟩
def fX6_mostGood (c : SS) (p1 : Int32) : Option (Int32 × SS) := Option.bind (fX4_measure c (c.1 2)) (fun q1 => Option.bind (fX2_wantGood q1 (q1.1 5) p1) (fun q2 => Option.bind (fX2_weighAll q2 (0 : Int32)) (fun q3 => Option.bind (fX2_solve q3 p1) (fun q4 => some (q4.1, q4.2)))))
set_option maxRecDepth 20000 in
theorem ctX6_mostGood (l : Launch) (G : tg_G) (A : Nat → Nat) (c : SS) (p1 : Int32) {z : Int32 × SS} (h : fX6_mostGood c p1 = some z) : Mt l G yX6_mostGood cX6_mostGood 2 (some .int) (tg_R 4 94) [.ref (A 0), .int p1] (wC G A c) (fun v w1 => v = some (.int z.1) ∧ w1 = wC G A z.2) := by
  refine Mt_of2 (own := "TramGod") (nm := "mostGood") rfl rfl rfl (Nat.le_of_ble_eq_true rfl) (lv := [(0, .ref (A 0)), (1, .int p1)]) rfl ?_
  unfold fX6_mostGood at h
  refine V_aload_n eX6_mostGood_0 0 rfl ?_
  refine V_get (v := .ref (A 11)) eX6_mostGood_1 inX6 0 rfl rfl 3 (Nat.le_of_ble_eq_true rfl) tw_210 rfl ?_
  refine V_aload_n eX6_mostGood_4 0 rfl ?_
  refine V_get (v := .ref (A 3)) eX6_mostGood_5 inX6 0 rfl rfl 1 (Nat.le_of_ble_eq_true rfl) tw_208 rfl ?_
  refine V_get (v := .int (c.1 2)) eX6_mostGood_8 inX5 3 rfl rfl 1 (Nat.le_of_ble_eq_true rfl) tw_47 rfl ?_
  obtain ⟨q1, hc1, h⟩ := Option.bind_eq_some_iff.mp h
  refine V_callVv (rest := []) eX6_mostGood_11 (ctX4_measure l G A c (c.1 2) hc1) tc_352 tw_349 tw_4 tw_350 tw_351 11 rfl rfl hdX4_measure rfl ⟨Nat.le_of_ble_eq_true rfl, Nat.le_of_ble_eq_true rfl⟩ rfl (Nat.le_of_ble_eq_true rfl) ⟨Nat.zero_le _, Nat.zero_le _⟩ ?_
  refine V_aload_n eX6_mostGood_14 0 rfl ?_
  refine V_get (v := .ref (A 13)) eX6_mostGood_15 inX6 0 rfl rfl 4 (Nat.le_of_ble_eq_true rfl) tw_211 rfl ?_
  refine V_aload_n eX6_mostGood_18 0 rfl ?_
  refine V_get (v := .ref (A 3)) eX6_mostGood_19 inX6 0 rfl rfl 1 (Nat.le_of_ble_eq_true rfl) tw_208 rfl ?_
  refine V_get (v := .int (q1.1 5)) eX6_mostGood_22 inX5 3 rfl rfl 4 (Nat.le_of_ble_eq_true rfl) tw_55 rfl ?_
  refine V_iload_n eX6_mostGood_25 1 rfl ?_
  obtain ⟨q2, hc2, h⟩ := Option.bind_eq_some_iff.mp h
  refine V_callVv (rest := []) eX6_mostGood_26 (ctX2_wantGood l G A q1 (q1.1 5) p1 hc2) tc_414 tw_411 tw_5 tw_412 tw_413 13 rfl rfl hdX2_wantGood rfl ⟨Nat.le_of_ble_eq_true rfl, Nat.le_of_ble_eq_true rfl⟩ rfl (Nat.le_of_ble_eq_true rfl) ⟨Nat.zero_le _, Nat.zero_le _⟩ ?_
  refine V_aload_n eX6_mostGood_29 0 rfl ?_
  refine V_get (v := .ref (A 13)) eX6_mostGood_30 inX6 0 rfl rfl 4 (Nat.le_of_ble_eq_true rfl) tw_211 rfl ?_
  refine V_iconst (v := (0 : Int32)) eX6_mostGood_33 rfl ?_
  obtain ⟨q3, hc3, h⟩ := Option.bind_eq_some_iff.mp h
  refine V_callVv (rest := []) eX6_mostGood_34 (ctX2_weighAll l G A q2 (0 : Int32) hc3) tc_422 tw_419 tw_5 tw_420 tw_421 13 rfl rfl hdX2_weighAll rfl ⟨Nat.le_of_ble_eq_true rfl, Nat.le_of_ble_eq_true rfl⟩ rfl (Nat.le_of_ble_eq_true rfl) ⟨Nat.zero_le _, Nat.zero_le _⟩ ?_
  refine V_aload_n eX6_mostGood_37 0 rfl ?_
  refine V_get (v := .ref (A 13)) eX6_mostGood_38 inX6 0 rfl rfl 4 (Nat.le_of_ble_eq_true rfl) tw_211 rfl ?_
  refine V_iload_n eX6_mostGood_41 1 rfl ?_
  obtain ⟨q4, hc4, h⟩ := Option.bind_eq_some_iff.mp h
  refine V_callVi (rest := []) eX6_mostGood_42 (ctX2_solve l G A q3 p1 hc4) tc_426 tw_423 tw_5 tw_424 tw_425 13 rfl rfl hdX2_solve rfl ⟨Nat.le_of_ble_eq_true rfl, Nat.le_of_ble_eq_true rfl⟩ rfl (Nat.le_of_ble_eq_true rfl) ⟨Nat.zero_le _, Nat.zero_le _⟩ ?_
  obtain rfl := Option.some.inj h
  exact V_ret eX6_mostGood_45 rfl ⟨rfl, rfl⟩
theorem hdX2_breathsAt : yX2_breathsAt.cls ≠ "java/lang/invoke/MethodHandle" ∧ yX2_breathsAt.cls ≠ "java/lang/invoke/VarHandle" ∧ (parseMethodDescriptor yX2_breathsAt.desc).map (fun d => d.parameters.length) = some 1 := by decide +kernel
theorem eX2_breathsAt_0 : Dc cX2_breathsAt 0 (.iconst 0) 1 1 := ⟨by decide +kernel, rfl⟩
theorem eX2_breathsAt_1 : Dc cX2_breathsAt 1 (.istore_n 2) 1 2 := ⟨by decide +kernel, rfl⟩
theorem eX2_breathsAt_2 : Dc cX2_breathsAt 2 (.iconst 0) 1 3 := ⟨by decide +kernel, rfl⟩
theorem eX2_breathsAt_3 : Dc cX2_breathsAt 3 (.istore_n 3) 1 4 := ⟨by decide +kernel, rfl⟩
theorem eX2_breathsAt_4 : Dc cX2_breathsAt 4 (.iconst 0) 1 5 := ⟨by decide +kernel, rfl⟩
theorem eX2_breathsAt_5 : Dc cX2_breathsAt 5 (.istore 4) 2 7 := ⟨by decide +kernel, rfl⟩
theorem eX2_breathsAt_7 : Dc cX2_breathsAt 7 (.iload 4) 2 9 := ⟨by decide +kernel, rfl⟩
theorem eX2_breathsAt_9 : Dc cX2_breathsAt 9 (.iload_n 1) 1 10 := ⟨by decide +kernel, rfl⟩
theorem eX2_breathsAt_10 : Dc cX2_breathsAt 10 (.if_icmp .gt 38) 3 13 := ⟨by decide +kernel, rfl⟩
theorem eX2_breathsAt_13 : Dc cX2_breathsAt 13 (.iload 4) 2 15 := ⟨by decide +kernel, rfl⟩
theorem eX2_breathsAt_15 : Dc cX2_breathsAt 15 (.bipush 6) 2 17 := ⟨by decide +kernel, rfl⟩
theorem eX2_breathsAt_17 : Dc cX2_breathsAt 17 (.if_icmp .ge 31) 3 20 := ⟨by decide +kernel, rfl⟩
theorem eX2_breathsAt_20 : Dc cX2_breathsAt 20 (.aload_n 0) 1 21 := ⟨by decide +kernel, rfl⟩
theorem eX2_breathsAt_21 : Dc cX2_breathsAt 21 (.getfield 21) 3 24 := ⟨by decide +kernel, rfl⟩
theorem eX2_breathsAt_24 : Dc cX2_breathsAt 24 (.iload 4) 2 26 := ⟨by decide +kernel, rfl⟩
theorem eX2_breathsAt_26 : Dc cX2_breathsAt 26 (.bipush 11) 2 28 := ⟨by decide +kernel, rfl⟩
theorem eX2_breathsAt_28 : Dc cX2_breathsAt 28 (.imul) 1 29 := ⟨by decide +kernel, rfl⟩
theorem eX2_breathsAt_29 : Dc cX2_breathsAt 29 (.iload_n 2) 1 30 := ⟨by decide +kernel, rfl⟩
theorem eX2_breathsAt_30 : Dc cX2_breathsAt 30 (.iadd) 1 31 := ⟨by decide +kernel, rfl⟩
theorem eX2_breathsAt_31 : Dc cX2_breathsAt 31 (.iaload) 1 32 := ⟨by decide +kernel, rfl⟩
theorem eX2_breathsAt_32 : Dc cX2_breathsAt 32 (.istore_n 3) 1 33 := ⟨by decide +kernel, rfl⟩
theorem eX2_breathsAt_33 : Dc cX2_breathsAt 33 (.iload_n 2) 1 34 := ⟨by decide +kernel, rfl⟩
theorem eX2_breathsAt_34 : Dc cX2_breathsAt 34 (.iload_n 3) 1 35 := ⟨by decide +kernel, rfl⟩
theorem eX2_breathsAt_35 : Dc cX2_breathsAt 35 (.iadd) 1 36 := ⟨by decide +kernel, rfl⟩
theorem eX2_breathsAt_36 : Dc cX2_breathsAt 36 (.bipush 10) 2 38 := ⟨by decide +kernel, rfl⟩
theorem eX2_breathsAt_38 : Dc cX2_breathsAt 38 (.invokestatic 68) 3 41 := ⟨by decide +kernel, rfl⟩
theorem eX2_breathsAt_41 : Dc cX2_breathsAt 41 (.istore_n 2) 1 42 := ⟨by decide +kernel, rfl⟩
theorem eX2_breathsAt_42 : Dc cX2_breathsAt 42 (.iinc 4 1) 3 45 := ⟨by decide +kernel, rfl⟩
theorem eX2_breathsAt_45 : Dc cX2_breathsAt 45 (.goto (-38)) 3 48 := ⟨by decide +kernel, rfl⟩
theorem eX2_breathsAt_48 : Dc cX2_breathsAt 48 (.iload_n 3) 1 49 := ⟨by decide +kernel, rfl⟩
theorem eX2_breathsAt_49 : Dc cX2_breathsAt 49 (.ireturn) 1 50 := ⟨by decide +kernel, rfl⟩
def fX2_breathsAt_L7  (c : SS) (a1 : Int32) : Nat → Int32 → Int32 → Int32 → Option (Int32)
  | 0, _, _, _ => none
  | n + 1, a2, a3, a4 => if a1 < a4 then some a3 else if (6 : Int32) ≤ a4 then some a3 else ald 66 (c.2 12) ((a4 * (11 : Int32)) + a2) (fun v3 => fX2_breathsAt_L7 c a1 n (mmin (a2 + v3) (10 : Int32)) v3 (a4 + (1 : Int32)))
def fX2_breathsAt (c : SS) (p1 : Int32) : Option (Int32) := fX2_breathsAt_L7 c p1 fu (0 : Int32) (0 : Int32) (0 : Int32)
set_option maxRecDepth 20000 in
theorem ctX2_breathsAt_L7 (l : Launch) (G : tg_G) (A : Nat → Nat)  (c : SS) (a1 : Int32) {z : Int32}  : ∀ (n : Nat) (a2 : Int32) (a3 : Int32) (a4 : Int32), fX2_breathsAt_L7 c a1 n a2 a3 a4 = some z → V l G (tg_Zm G (fun v w1 => v = some (.int z) ∧ w1 = wC G A c) 0 0) tg_E0 (tg_R 1 21) "TramGod$Planner" "breathsAt" cX2_breathsAt 5 (some .int) 7 [(0, .ref (A 13)), (1, .int a1), (2, .int a2), (3, .int a3), (4, .int a4)] [] (wC G A c) 0 0 := by
  intro n
  induction n with
  | zero => intro a2 a3 a4 h; exact absurd h (by simp [fX2_breathsAt_L7])
  | succ n ih =>
    intro a2 a3 a4 h
    unfold fX2_breathsAt_L7 at h
    refine V_iload eX2_breathsAt_7 4 rfl ?_
    refine V_iload_n eX2_breathsAt_9 1 rfl ?_
    refine V_icmp_gt (tgt := 48) eX2_breathsAt_10 rfl (fun hb1 => ?_) (fun hb1 => ?_)
    · replace h := (if_pos hb1).symm.trans h
      refine V_iload_n eX2_breathsAt_48 3 rfl ?_
      obtain rfl := Option.some.inj h
      exact V_ret eX2_breathsAt_49 rfl ⟨rfl, rfl⟩
    · replace h := (if_neg hb1).symm.trans h
      refine V_iload eX2_breathsAt_13 4 rfl ?_
      refine V_bipush (v := (6 : Int32)) eX2_breathsAt_15 rfl ?_
      refine V_icmp_ge (tgt := 48) eX2_breathsAt_17 rfl (fun hb2 => ?_) (fun hb2 => ?_)
      · replace h := (if_pos hb2).symm.trans h
        refine V_iload_n eX2_breathsAt_48 3 rfl ?_
        obtain rfl := Option.some.inj h
        exact V_ret eX2_breathsAt_49 rfl ⟨rfl, rfl⟩
      · replace h := (if_neg hb2).symm.trans h
        refine V_aload_n eX2_breathsAt_20 0 rfl ?_
        refine V_get (v := .ref (A 17)) eX2_breathsAt_21 inX2 13 rfl rfl 5 (Nat.le_of_ble_eq_true rfl) tw_139 rfl ?_
        refine V_iload eX2_breathsAt_24 4 rfl ?_
        refine V_bipush (v := (11 : Int32)) eX2_breathsAt_26 rfl ?_
        refine V_imul eX2_breathsAt_28 ?_
        refine V_iload_n eX2_breathsAt_29 2 rfl ?_
        refine V_iadd eX2_breathsAt_30 ?_
        obtain ⟨v3, hi3, ev3, h⟩ := ald_some h
        refine V_ialdv eX2_breathsAt_31 17 rfl hi3 ev3 ?_
        refine V_istore_n (lv' := [(3, .int v3), (0, .ref (A 13)), (1, .int a1), (2, .int a2), (4, .int a4)]) eX2_breathsAt_32 (Nat.le_of_ble_eq_true rfl) rfl ?_
        refine V_iload_n eX2_breathsAt_33 3 rfl ?_
        refine V_iload_n eX2_breathsAt_34 0 rfl ?_
        refine V_iadd eX2_breathsAt_35 ?_
        refine V_bipush (v := (10 : Int32)) eX2_breathsAt_36 rfl ?_
        refine V_mmin (rest := []) eX2_breathsAt_38 tw_444 tw_272 tw_9 tc_273 (Nat.le_of_ble_eq_true rfl) (Nat.le_of_ble_eq_true rfl) ⟨Nat.zero_le _, Nat.zero_le _⟩ ?_
        refine V_istore_n (lv' := [(2, .int (mmin (a2 + v3) (10 : Int32))), (3, .int v3), (0, .ref (A 13)), (1, .int a1), (4, .int a4)]) eX2_breathsAt_41 (Nat.le_of_ble_eq_true rfl) rfl ?_
        refine V_iinc (v := (a4 + (1 : Int32))) (lv' := [(4, .int (a4 + (1 : Int32))), (2, .int (mmin (a2 + v3) (10 : Int32))), (3, .int v3), (0, .ref (A 13)), (1, .int a1)]) eX2_breathsAt_42 4 rfl rfl (Nat.le_of_ble_eq_true rfl) rfl ?_
        refine V_goto (tgt := 7) eX2_breathsAt_45 rfl ?_
        refine V_lv (lv' := [(0, .ref (A 13)), (1, .int a1), (2, .int (mmin (a2 + v3) (10 : Int32))), (3, .int v3), (4, .int (a4 + (1 : Int32)))]) [3, 4, 1, 2, 0] rfl ?_
        exact ih (mmin (a2 + v3) (10 : Int32)) v3 (a4 + (1 : Int32)) h
set_option maxRecDepth 20000 in
theorem ctX2_breathsAt (l : Launch) (G : tg_G) (A : Nat → Nat) (c : SS) (p1 : Int32) {z : Int32} (h : fX2_breathsAt c p1 = some z) : Mt l G yX2_breathsAt cX2_breathsAt 5 (some .int) (tg_R 1 21) [.ref (A 13), .int p1] (wC G A c) (fun v w1 => v = some (.int z) ∧ w1 = wC G A c) := by
  refine Mt_of2 (own := "TramGod$Planner") (nm := "breathsAt") rfl rfl rfl (Nat.le_of_ble_eq_true rfl) (lv := [(0, .ref (A 13)), (1, .int p1)]) rfl ?_
  unfold fX2_breathsAt at h
  refine V_iconst (v := (0 : Int32)) eX2_breathsAt_0 rfl ?_
  refine V_istore_n (lv' := [(2, .int (0 : Int32)), (0, .ref (A 13)), (1, .int p1)]) eX2_breathsAt_1 (Nat.le_of_ble_eq_true rfl) rfl ?_
  refine V_iconst (v := (0 : Int32)) eX2_breathsAt_2 rfl ?_
  refine V_istore_n (lv' := [(3, .int (0 : Int32)), (2, .int (0 : Int32)), (0, .ref (A 13)), (1, .int p1)]) eX2_breathsAt_3 (Nat.le_of_ble_eq_true rfl) rfl ?_
  refine V_iconst (v := (0 : Int32)) eX2_breathsAt_4 rfl ?_
  refine V_istore (lv' := [(4, .int (0 : Int32)), (3, .int (0 : Int32)), (2, .int (0 : Int32)), (0, .ref (A 13)), (1, .int p1)]) eX2_breathsAt_5 (Nat.le_of_ble_eq_true rfl) rfl ?_
  refine V_lv (lv' := [(0, .ref (A 13)), (1, .int p1), (2, .int (0 : Int32)), (3, .int (0 : Int32)), (4, .int (0 : Int32))]) [3, 4, 2, 1, 0] rfl ?_
  refine ctX2_breathsAt_L7 l G A c p1 fu (0 : Int32) (0 : Int32) (0 : Int32) h
theorem hdX6_best : yX6_best.cls ≠ "java/lang/invoke/MethodHandle" ∧ yX6_best.cls ≠ "java/lang/invoke/VarHandle" ∧ (parseMethodDescriptor yX6_best.desc).map (fun d => d.parameters.length) = some 1 := by decide +kernel
theorem eX6_best_0 : Dc cX6_best 0 (.aload_n 0) 1 1 := ⟨by decide +kernel, rfl⟩
theorem eX6_best_1 : Dc cX6_best 1 (.iload_n 1) 1 2 := ⟨by decide +kernel, rfl⟩
theorem eX6_best_2 : Dc cX6_best 2 (.invokevirtual 166) 3 5 := ⟨by decide +kernel, rfl⟩
theorem eX6_best_5 : Dc cX6_best 5 (.ifCond .ne 5) 3 8 := ⟨by decide +kernel, rfl⟩
theorem eX6_best_8 : Dc cX6_best 8 (.iconst (-1)) 1 9 := ⟨by decide +kernel, rfl⟩
theorem eX6_best_9 : Dc cX6_best 9 (.ireturn) 1 10 := ⟨by decide +kernel, rfl⟩
theorem eX6_best_10 : Dc cX6_best 10 (.aload_n 0) 1 11 := ⟨by decide +kernel, rfl⟩
theorem eX6_best_11 : Dc cX6_best 11 (.aload_n 0) 1 12 := ⟨by decide +kernel, rfl⟩
theorem eX6_best_12 : Dc cX6_best 12 (.getfield 19) 3 15 := ⟨by decide +kernel, rfl⟩
theorem eX6_best_15 : Dc cX6_best 15 (.getfield 130) 3 18 := ⟨by decide +kernel, rfl⟩
theorem eX6_best_18 : Dc cX6_best 18 (.invokevirtual 169) 3 21 := ⟨by decide +kernel, rfl⟩
theorem eX6_best_21 : Dc cX6_best 21 (.istore_n 2) 1 22 := ⟨by decide +kernel, rfl⟩
theorem eX6_best_22 : Dc cX6_best 22 (.iload_n 1) 1 23 := ⟨by decide +kernel, rfl⟩
theorem eX6_best_23 : Dc cX6_best 23 (.iconst (-1)) 1 24 := ⟨by decide +kernel, rfl⟩
theorem eX6_best_24 : Dc cX6_best 24 (.if_icmp .ne 11) 3 27 := ⟨by decide +kernel, rfl⟩
theorem eX6_best_27 : Dc cX6_best 27 (.iload_n 2) 1 28 := ⟨by decide +kernel, rfl⟩
theorem eX6_best_28 : Dc cX6_best 28 (.sipush 1000) 3 31 := ⟨by decide +kernel, rfl⟩
theorem eX6_best_31 : Dc cX6_best 31 (.iadd) 1 32 := ⟨by decide +kernel, rfl⟩
theorem eX6_best_32 : Dc cX6_best 32 (.goto 11) 3 35 := ⟨by decide +kernel, rfl⟩
theorem eX6_best_35 : Dc cX6_best 35 (.aload_n 0) 1 36 := ⟨by decide +kernel, rfl⟩
theorem eX6_best_36 : Dc cX6_best 36 (.getfield 41) 3 39 := ⟨by decide +kernel, rfl⟩
theorem eX6_best_39 : Dc cX6_best 39 (.iload_n 1) 1 40 := ⟨by decide +kernel, rfl⟩
theorem eX6_best_40 : Dc cX6_best 40 (.invokevirtual 172) 3 43 := ⟨by decide +kernel, rfl⟩
theorem eX6_best_43 : Dc cX6_best 43 (.ireturn) 1 44 := ⟨by decide +kernel, rfl⟩
def fX6_best (c : SS) (p1 : Int32) : Option (Int32 × SS) := if (fX6_isStopOrAll c p1) = (0 : Int32) then some ((-1 : Int32), c) else Option.bind (fX6_mostGood c (c.1 3)) (fun q2 => if p1 = (-1 : Int32) then some ((q2.1 + (1000 : Int32)), q2.2) else Option.bind (fX2_breathsAt q2.2 p1) (fun q4 => some (q4, q2.2)))
set_option maxRecDepth 20000 in
theorem ctX6_best (l : Launch) (G : tg_G) (A : Nat → Nat) (c : SS) (p1 : Int32) {z : Int32 × SS} (h : fX6_best c p1 = some z) : Mt l G yX6_best cX6_best 3 (some .int) (tg_R 5 115) [.ref (A 0), .int p1] (wC G A c) (fun v w1 => v = some (.int z.1) ∧ w1 = wC G A z.2) := by
  refine Mt_of2 (own := "TramGod") (nm := "best") rfl rfl rfl (Nat.le_of_ble_eq_true rfl) (lv := [(0, .ref (A 0)), (1, .int p1)]) rfl ?_
  unfold fX6_best at h
  refine V_aload_n eX6_best_0 0 rfl ?_
  refine V_iload_n eX6_best_1 1 rfl ?_
  refine V_callVi (rest := []) eX6_best_2 (ctX6_isStopOrAll l G A c p1 rfl) tc_406 tw_403 tw_1 tw_405 ts_6 0 rfl rfl hdX6_isStopOrAll rfl ⟨Nat.le_of_ble_eq_true rfl, Nat.le_of_ble_eq_true rfl⟩ rfl (Nat.le_of_ble_eq_true rfl) ⟨Nat.zero_le _, Nat.zero_le _⟩ ?_
  refine V_if_ne (tgt := 10) eX6_best_5 rfl (fun hb1 => ?_) (fun hb1 => ?_)
  · replace h := (if_neg hb1).symm.trans h
    refine V_aload_n eX6_best_10 0 rfl ?_
    refine V_aload_n eX6_best_11 0 rfl ?_
    refine V_get (v := .ref (A 3)) eX6_best_12 inX6 0 rfl rfl 1 (Nat.le_of_ble_eq_true rfl) tw_208 rfl ?_
    refine V_get (v := .int (c.1 3)) eX6_best_15 inX5 3 rfl rfl 2 (Nat.le_of_ble_eq_true rfl) tw_51 rfl ?_
    obtain ⟨q2, hc2, h⟩ := Option.bind_eq_some_iff.mp h
    refine V_callVi (rest := []) eX6_best_18 (ctX6_mostGood l G A c (c.1 3) hc2) tc_410 tw_407 tw_1 tw_409 ts_7 0 rfl rfl hdX6_mostGood rfl ⟨Nat.le_of_ble_eq_true rfl, Nat.le_of_ble_eq_true rfl⟩ rfl (Nat.le_of_ble_eq_true rfl) ⟨Nat.zero_le _, Nat.zero_le _⟩ ?_
    refine V_istore_n (lv' := [(2, .int q2.1), (0, .ref (A 0)), (1, .int p1)]) eX6_best_21 (Nat.le_of_ble_eq_true rfl) rfl ?_
    refine V_iload_n eX6_best_22 2 rfl ?_
    refine V_iconst (v := (-1 : Int32)) eX6_best_23 rfl ?_
    refine V_icmp_ne (tgt := 35) eX6_best_24 rfl (fun hb3 => ?_) (fun hb3 => ?_)
    · replace h := (if_neg hb3).symm.trans h
      refine V_aload_n eX6_best_35 1 rfl ?_
      refine V_get (v := .ref (A 13)) eX6_best_36 inX6 0 rfl rfl 4 (Nat.le_of_ble_eq_true rfl) tw_211 rfl ?_
      refine V_iload_n eX6_best_39 2 rfl ?_
      obtain ⟨q4, hc4, h⟩ := Option.bind_eq_some_iff.mp h
      refine V_callVi (rest := []) eX6_best_40 (ctX2_breathsAt l G A q2.2 p1 hc4) tc_443 tw_440 tw_5 tw_441 tw_442 13 rfl rfl hdX2_breathsAt rfl ⟨Nat.le_of_ble_eq_true rfl, Nat.le_of_ble_eq_true rfl⟩ rfl (Nat.le_of_ble_eq_true rfl) ⟨Nat.zero_le _, Nat.zero_le _⟩ ?_
      obtain rfl := Option.some.inj h
      exact V_ret eX6_best_43 rfl ⟨rfl, rfl⟩
    · replace h := (if_pos hb3).symm.trans h
      refine V_iload_n eX6_best_27 0 rfl ?_
      refine V_sipush (v := (1000 : Int32)) eX6_best_28 rfl ?_
      refine V_iadd eX6_best_31 ?_
      refine V_goto (tgt := 43) eX6_best_32 rfl ?_
      obtain rfl := Option.some.inj h
      exact V_ret eX6_best_43 rfl ⟨rfl, rfl⟩
  · replace h := (if_pos hb1).symm.trans h
    refine V_iconst (v := (-1 : Int32)) eX6_best_8 rfl ?_
    obtain rfl := Option.some.inj h
    exact V_ret eX6_best_9 rfl ⟨rfl, rfl⟩
theorem hdX6_worth : yX6_worth.cls ≠ "java/lang/invoke/MethodHandle" ∧ yX6_worth.cls ≠ "java/lang/invoke/VarHandle" ∧ (parseMethodDescriptor yX6_worth.desc).map (fun d => d.parameters.length) = some 0 := by decide +kernel
theorem eX6_worth_0 : Dc cX6_worth 0 (.aload_n 0) 1 1 := ⟨by decide +kernel, rfl⟩
theorem eX6_worth_1 : Dc cX6_worth 1 (.aload_n 0) 1 2 := ⟨by decide +kernel, rfl⟩
theorem eX6_worth_2 : Dc cX6_worth 2 (.getfield 19) 3 5 := ⟨by decide +kernel, rfl⟩
theorem eX6_worth_5 : Dc cX6_worth 5 (.getfield 130) 3 8 := ⟨by decide +kernel, rfl⟩
theorem eX6_worth_8 : Dc cX6_worth 8 (.invokevirtual 169) 3 11 := ⟨by decide +kernel, rfl⟩
theorem eX6_worth_11 : Dc cX6_worth 11 (.istore_n 1) 1 12 := ⟨by decide +kernel, rfl⟩
theorem eX6_worth_12 : Dc cX6_worth 12 (.aload_n 0) 1 13 := ⟨by decide +kernel, rfl⟩
theorem eX6_worth_13 : Dc cX6_worth 13 (.aload_n 0) 1 14 := ⟨by decide +kernel, rfl⟩
theorem eX6_worth_14 : Dc cX6_worth 14 (.getfield 19) 3 17 := ⟨by decide +kernel, rfl⟩
theorem eX6_worth_17 : Dc cX6_worth 17 (.getfield 130) 3 20 := ⟨by decide +kernel, rfl⟩
theorem eX6_worth_20 : Dc cX6_worth 20 (.iconst 1) 1 21 := ⟨by decide +kernel, rfl⟩
theorem eX6_worth_21 : Dc cX6_worth 21 (.iadd) 1 22 := ⟨by decide +kernel, rfl⟩
theorem eX6_worth_22 : Dc cX6_worth 22 (.invokevirtual 169) 3 25 := ⟨by decide +kernel, rfl⟩
theorem eX6_worth_25 : Dc cX6_worth 25 (.iload_n 1) 1 26 := ⟨by decide +kernel, rfl⟩
theorem eX6_worth_26 : Dc cX6_worth 26 (.isub) 1 27 := ⟨by decide +kernel, rfl⟩
theorem eX6_worth_27 : Dc cX6_worth 27 (.ireturn) 1 28 := ⟨by decide +kernel, rfl⟩
def fX6_worth (c : SS)  : Option (Int32 × SS) := Option.bind (fX6_mostGood c (c.1 3)) (fun q1 => Option.bind (fX6_mostGood q1.2 ((q1.2.1 3) + (1 : Int32))) (fun q2 => some ((q2.1 - q1.1), q2.2)))
set_option maxRecDepth 20000 in
theorem ctX6_worth (l : Launch) (G : tg_G) (A : Nat → Nat) (c : SS)  {z : Int32 × SS} (h : fX6_worth c  = some z) : Mt l G yX6_worth cX6_worth 2 (some .int) (tg_R 5 115) [.ref (A 0)] (wC G A c) (fun v w1 => v = some (.int z.1) ∧ w1 = wC G A z.2) := by
  refine Mt_of2 (own := "TramGod") (nm := "worth") rfl rfl rfl (Nat.le_of_ble_eq_true rfl) (lv := [(0, .ref (A 0))]) rfl ?_
  unfold fX6_worth at h
  refine V_aload_n eX6_worth_0 0 rfl ?_
  refine V_aload_n eX6_worth_1 0 rfl ?_
  refine V_get (v := .ref (A 3)) eX6_worth_2 inX6 0 rfl rfl 1 (Nat.le_of_ble_eq_true rfl) tw_208 rfl ?_
  refine V_get (v := .int (c.1 3)) eX6_worth_5 inX5 3 rfl rfl 2 (Nat.le_of_ble_eq_true rfl) tw_51 rfl ?_
  obtain ⟨q1, hc1, h⟩ := Option.bind_eq_some_iff.mp h
  refine V_callVi (rest := []) eX6_worth_8 (ctX6_mostGood l G A c (c.1 3) hc1) tc_410 tw_407 tw_1 tw_409 ts_7 0 rfl rfl hdX6_mostGood rfl ⟨Nat.le_of_ble_eq_true rfl, Nat.le_of_ble_eq_true rfl⟩ rfl (Nat.le_of_ble_eq_true rfl) ⟨Nat.zero_le _, Nat.zero_le _⟩ ?_
  refine V_istore_n (lv' := [(1, .int q1.1), (0, .ref (A 0))]) eX6_worth_11 (Nat.le_of_ble_eq_true rfl) rfl ?_
  refine V_aload_n eX6_worth_12 1 rfl ?_
  refine V_aload_n eX6_worth_13 1 rfl ?_
  refine V_get (v := .ref (A 3)) eX6_worth_14 inX6 0 rfl rfl 1 (Nat.le_of_ble_eq_true rfl) tw_208 rfl ?_
  refine V_get (v := .int (q1.2.1 3)) eX6_worth_17 inX5 3 rfl rfl 2 (Nat.le_of_ble_eq_true rfl) tw_51 rfl ?_
  refine V_iconst (v := (1 : Int32)) eX6_worth_20 rfl ?_
  refine V_iadd eX6_worth_21 ?_
  obtain ⟨q2, hc2, h⟩ := Option.bind_eq_some_iff.mp h
  refine V_callVi (rest := []) eX6_worth_22 (ctX6_mostGood l G A q1.2 ((q1.2.1 3) + (1 : Int32)) hc2) tc_410 tw_407 tw_1 tw_409 ts_7 0 rfl rfl hdX6_mostGood rfl ⟨Nat.le_of_ble_eq_true rfl, Nat.le_of_ble_eq_true rfl⟩ rfl (Nat.le_of_ble_eq_true rfl) ⟨Nat.zero_le _, Nat.zero_le _⟩ ?_
  refine V_iload_n eX6_worth_25 0 rfl ?_
  refine V_isub eX6_worth_26 ?_
  obtain rfl := Option.some.inj h
  exact V_ret eX6_worth_27 rfl ⟨rfl, rfl⟩
theorem hdX6_areSets : yX6_areSets.cls ≠ "java/lang/invoke/MethodHandle" ∧ yX6_areSets.cls ≠ "java/lang/invoke/VarHandle" ∧ (parseMethodDescriptor yX6_areSets.desc).map (fun d => d.parameters.length) = some 2 := by decide +kernel
theorem eX6_areSets_0 : Dc cX6_areSets 0 (.iload_n 1) 1 1 := ⟨by decide +kernel, rfl⟩
theorem eX6_areSets_1 : Dc cX6_areSets 1 (.iload_n 2) 1 2 := ⟨by decide +kernel, rfl⟩
theorem eX6_areSets_2 : Dc cX6_areSets 2 (.ior) 1 3 := ⟨by decide +kernel, rfl⟩
theorem eX6_areSets_3 : Dc cX6_areSets 3 (.aload_n 0) 1 4 := ⟨by decide +kernel, rfl⟩
theorem eX6_areSets_4 : Dc cX6_areSets 4 (.getfield 19) 3 7 := ⟨by decide +kernel, rfl⟩
theorem eX6_areSets_7 : Dc cX6_areSets 7 (.getfield 100) 3 10 := ⟨by decide +kernel, rfl⟩
theorem eX6_areSets_10 : Dc cX6_areSets 10 (.iconst (-1)) 1 11 := ⟨by decide +kernel, rfl⟩
theorem eX6_areSets_11 : Dc cX6_areSets 11 (.ixor) 1 12 := ⟨by decide +kernel, rfl⟩
theorem eX6_areSets_12 : Dc cX6_areSets 12 (.iand) 1 13 := ⟨by decide +kernel, rfl⟩
theorem eX6_areSets_13 : Dc cX6_areSets 13 (.ifCond .ne 13) 3 16 := ⟨by decide +kernel, rfl⟩
theorem eX6_areSets_16 : Dc cX6_areSets 16 (.iload_n 1) 1 17 := ⟨by decide +kernel, rfl⟩
theorem eX6_areSets_17 : Dc cX6_areSets 17 (.iload_n 2) 1 18 := ⟨by decide +kernel, rfl⟩
theorem eX6_areSets_18 : Dc cX6_areSets 18 (.iand) 1 19 := ⟨by decide +kernel, rfl⟩
theorem eX6_areSets_19 : Dc cX6_areSets 19 (.ifCond .ne 7) 3 22 := ⟨by decide +kernel, rfl⟩
theorem eX6_areSets_22 : Dc cX6_areSets 22 (.iconst 1) 1 23 := ⟨by decide +kernel, rfl⟩
theorem eX6_areSets_23 : Dc cX6_areSets 23 (.goto 4) 3 26 := ⟨by decide +kernel, rfl⟩
theorem eX6_areSets_26 : Dc cX6_areSets 26 (.iconst 0) 1 27 := ⟨by decide +kernel, rfl⟩
theorem eX6_areSets_27 : Dc cX6_areSets 27 (.ireturn) 1 28 := ⟨by decide +kernel, rfl⟩
def fX6_areSets (c : SS) (p1 : Int32) (p2 : Int32) : Int32 := if ((p1 ||| p2) &&& ((c.1 5) ^^^ (-1 : Int32))) = (0 : Int32) then if (p1 &&& p2) = (0 : Int32) then (1 : Int32) else (0 : Int32) else (0 : Int32)
set_option maxRecDepth 20000 in
theorem ctX6_areSets (l : Launch) (G : tg_G) (A : Nat → Nat) (c : SS) (p1 : Int32) (p2 : Int32) {z : Int32} (h : fX6_areSets c p1 p2 = z) : Mt l G yX6_areSets cX6_areSets 3 (some .boolean) (tg_R 0 0) [.ref (A 0), .int p1, .int p2] (wC G A c) (fun v w1 => v = some (.int z) ∧ w1 = wC G A c) := by
  refine Mt_of2 (own := "TramGod") (nm := "areSets") rfl rfl rfl (Nat.le_of_ble_eq_true rfl) (lv := [(0, .ref (A 0)), (1, .int p1), (2, .int p2)]) rfl ?_
  unfold fX6_areSets at h
  refine V_iload_n eX6_areSets_0 1 rfl ?_
  refine V_iload_n eX6_areSets_1 2 rfl ?_
  refine V_ior eX6_areSets_2 ?_
  refine V_aload_n eX6_areSets_3 0 rfl ?_
  refine V_get (v := .ref (A 3)) eX6_areSets_4 inX6 0 rfl rfl 1 (Nat.le_of_ble_eq_true rfl) tw_208 rfl ?_
  refine V_get (v := .int (c.1 5)) eX6_areSets_7 inX5 3 rfl rfl 4 (Nat.le_of_ble_eq_true rfl) tw_55 rfl ?_
  refine V_iconst (v := (-1 : Int32)) eX6_areSets_10 rfl ?_
  refine V_ixor eX6_areSets_11 ?_
  refine V_iand eX6_areSets_12 ?_
  refine V_if_ne (tgt := 26) eX6_areSets_13 rfl (fun hb1 => ?_) (fun hb1 => ?_)
  · replace h := (if_neg hb1).symm.trans h
    refine V_iconst (v := (0 : Int32)) eX6_areSets_26 rfl ?_
    subst h
    exact V_zret eX6_areSets_27 rfl rfl ⟨rfl, rfl⟩
  · replace h := (if_pos hb1).symm.trans h
    refine V_iload_n eX6_areSets_16 1 rfl ?_
    refine V_iload_n eX6_areSets_17 2 rfl ?_
    refine V_iand eX6_areSets_18 ?_
    refine V_if_ne (tgt := 26) eX6_areSets_19 rfl (fun hb2 => ?_) (fun hb2 => ?_)
    · replace h := (if_neg hb2).symm.trans h
      refine V_iconst (v := (0 : Int32)) eX6_areSets_26 rfl ?_
      subst h
      exact V_zret eX6_areSets_27 rfl rfl ⟨rfl, rfl⟩
    · replace h := (if_pos hb2).symm.trans h
      refine V_iconst (v := (1 : Int32)) eX6_areSets_22 rfl ?_
      refine V_goto (tgt := 27) eX6_areSets_23 rfl ?_
      subst h
      exact V_zret eX6_areSets_27 rfl rfl ⟨rfl, rfl⟩
theorem bzX6_areSets (c : SS) (p1 : Int32) (p2 : Int32) : narrow .boolean (.int (fX6_areSets c p1 p2)) = .int (fX6_areSets c p1 p2) := by
  unfold fX6_areSets
  repeat' split
  all_goals first | rfl
theorem hdX2_wantSets : yX2_wantSets.cls ≠ "java/lang/invoke/MethodHandle" ∧ yX2_wantSets.cls ≠ "java/lang/invoke/VarHandle" ∧ (parseMethodDescriptor yX2_wantSets.desc).map (fun d => d.parameters.length) = some 2 := by decide +kernel
theorem eX2_wantSets_0 : Dc cX2_wantSets 0 (.aload_n 0) 1 1 := ⟨by decide +kernel, rfl⟩
theorem eX2_wantSets_1 : Dc cX2_wantSets 1 (.invokevirtual 32) 3 4 := ⟨by decide +kernel, rfl⟩
theorem eX2_wantSets_4 : Dc cX2_wantSets 4 (.iconst 0) 1 5 := ⟨by decide +kernel, rfl⟩
theorem eX2_wantSets_5 : Dc cX2_wantSets 5 (.istore_n 3) 1 6 := ⟨by decide +kernel, rfl⟩
theorem eX2_wantSets_6 : Dc cX2_wantSets 6 (.iload_n 3) 1 7 := ⟨by decide +kernel, rfl⟩
theorem eX2_wantSets_7 : Dc cX2_wantSets 7 (.bipush 8) 2 9 := ⟨by decide +kernel, rfl⟩
theorem eX2_wantSets_9 : Dc cX2_wantSets 9 (.if_icmp .ge 82) 3 12 := ⟨by decide +kernel, rfl⟩
theorem eX2_wantSets_12 : Dc cX2_wantSets 12 (.aload_n 0) 1 13 := ⟨by decide +kernel, rfl⟩
theorem eX2_wantSets_13 : Dc cX2_wantSets 13 (.getfield 24) 3 16 := ⟨by decide +kernel, rfl⟩
theorem eX2_wantSets_16 : Dc cX2_wantSets 16 (.getfield 35) 3 19 := ⟨by decide +kernel, rfl⟩
theorem eX2_wantSets_19 : Dc cX2_wantSets 19 (.iload_n 3) 1 20 := ⟨by decide +kernel, rfl⟩
theorem eX2_wantSets_20 : Dc cX2_wantSets 20 (.iaload) 1 21 := ⟨by decide +kernel, rfl⟩
theorem eX2_wantSets_21 : Dc cX2_wantSets 21 (.bipush 11) 2 23 := ⟨by decide +kernel, rfl⟩
theorem eX2_wantSets_23 : Dc cX2_wantSets 23 (.imul) 1 24 := ⟨by decide +kernel, rfl⟩
theorem eX2_wantSets_24 : Dc cX2_wantSets 24 (.istore 4) 2 26 := ⟨by decide +kernel, rfl⟩
theorem eX2_wantSets_26 : Dc cX2_wantSets 26 (.iconst 0) 1 27 := ⟨by decide +kernel, rfl⟩
theorem eX2_wantSets_27 : Dc cX2_wantSets 27 (.istore 5) 2 29 := ⟨by decide +kernel, rfl⟩
theorem eX2_wantSets_29 : Dc cX2_wantSets 29 (.iload 5) 2 31 := ⟨by decide +kernel, rfl⟩
theorem eX2_wantSets_31 : Dc cX2_wantSets 31 (.bipush 11) 2 33 := ⟨by decide +kernel, rfl⟩
theorem eX2_wantSets_33 : Dc cX2_wantSets 33 (.if_icmp .ge 52) 3 36 := ⟨by decide +kernel, rfl⟩
theorem eX2_wantSets_36 : Dc cX2_wantSets 36 (.aload_n 0) 1 37 := ⟨by decide +kernel, rfl⟩
theorem eX2_wantSets_37 : Dc cX2_wantSets 37 (.getfield 28) 3 40 := ⟨by decide +kernel, rfl⟩
theorem eX2_wantSets_40 : Dc cX2_wantSets 40 (.getfield 40) 3 43 := ⟨by decide +kernel, rfl⟩
theorem eX2_wantSets_43 : Dc cX2_wantSets 43 (.iload_n 3) 1 44 := ⟨by decide +kernel, rfl⟩
theorem eX2_wantSets_44 : Dc cX2_wantSets 44 (.iaload) 1 45 := ⟨by decide +kernel, rfl⟩
theorem eX2_wantSets_45 : Dc cX2_wantSets 45 (.iload 5) 2 47 := ⟨by decide +kernel, rfl⟩
theorem eX2_wantSets_47 : Dc cX2_wantSets 47 (.if_icmp .gt 7) 3 50 := ⟨by decide +kernel, rfl⟩
theorem eX2_wantSets_50 : Dc cX2_wantSets 50 (.iload_n 2) 1 51 := ⟨by decide +kernel, rfl⟩
theorem eX2_wantSets_51 : Dc cX2_wantSets 51 (.goto 4) 3 54 := ⟨by decide +kernel, rfl⟩
theorem eX2_wantSets_54 : Dc cX2_wantSets 54 (.iload_n 1) 1 55 := ⟨by decide +kernel, rfl⟩
theorem eX2_wantSets_55 : Dc cX2_wantSets 55 (.istore 6) 2 57 := ⟨by decide +kernel, rfl⟩
theorem eX2_wantSets_57 : Dc cX2_wantSets 57 (.iload 6) 2 59 := ⟨by decide +kernel, rfl⟩
theorem eX2_wantSets_59 : Dc cX2_wantSets 59 (.iload_n 3) 1 60 := ⟨by decide +kernel, rfl⟩
theorem eX2_wantSets_60 : Dc cX2_wantSets 60 (.ishr) 1 61 := ⟨by decide +kernel, rfl⟩
theorem eX2_wantSets_61 : Dc cX2_wantSets 61 (.iconst 1) 1 62 := ⟨by decide +kernel, rfl⟩
theorem eX2_wantSets_62 : Dc cX2_wantSets 62 (.iand) 1 63 := ⟨by decide +kernel, rfl⟩
theorem eX2_wantSets_63 : Dc cX2_wantSets 63 (.iconst 1) 1 64 := ⟨by decide +kernel, rfl⟩
theorem eX2_wantSets_64 : Dc cX2_wantSets 64 (.if_icmp .ne 15) 3 67 := ⟨by decide +kernel, rfl⟩
theorem eX2_wantSets_67 : Dc cX2_wantSets 67 (.aload_n 0) 1 68 := ⟨by decide +kernel, rfl⟩
theorem eX2_wantSets_68 : Dc cX2_wantSets 68 (.getfield 9) 3 71 := ⟨by decide +kernel, rfl⟩
theorem eX2_wantSets_71 : Dc cX2_wantSets 71 (.iload 4) 2 73 := ⟨by decide +kernel, rfl⟩
theorem eX2_wantSets_73 : Dc cX2_wantSets 73 (.iload 5) 2 75 := ⟨by decide +kernel, rfl⟩
theorem eX2_wantSets_75 : Dc cX2_wantSets 75 (.iadd) 1 76 := ⟨by decide +kernel, rfl⟩
theorem eX2_wantSets_76 : Dc cX2_wantSets 76 (.ldc 51) 2 78 := ⟨by decide +kernel, rfl⟩
theorem eX2_wantSets_78 : Dc cX2_wantSets 78 (.iastore) 1 79 := ⟨by decide +kernel, rfl⟩
theorem eX2_wantSets_79 : Dc cX2_wantSets 79 (.iinc 5 1) 3 82 := ⟨by decide +kernel, rfl⟩
theorem eX2_wantSets_82 : Dc cX2_wantSets 82 (.goto (-53)) 3 85 := ⟨by decide +kernel, rfl⟩
theorem eX2_wantSets_85 : Dc cX2_wantSets 85 (.iinc 3 1) 3 88 := ⟨by decide +kernel, rfl⟩
theorem eX2_wantSets_88 : Dc cX2_wantSets 88 (.goto (-82)) 3 91 := ⟨by decide +kernel, rfl⟩
theorem eX2_wantSets_91 : Dc cX2_wantSets 91 (.return_) 1 92 := ⟨by decide +kernel, rfl⟩
def fX2_wantSets_L29 (k : SS → Option (SS)) (a1 : Int32) (a2 : Int32) (a3 : Int32) (a4 : Int32) : Nat → Int32 → SS → Option (SS)
  | 0, _, _ => none
  | n + 1, a5, c => if (11 : Int32) ≤ a5 then k c else ald 8 (c.2 8) a3 (fun v5 => jn (fun (x6 : Int32) => jn (fun (c7 : SS) => fX2_wantSets_L29 k a1 a2 a3 a4 n (a5 + (1 : Int32)) c7) (fun j79 => if ((x6 >>> (a3 &&& 31)) &&& (1 : Int32)) = (1 : Int32) then ckb 66 (a4 + a5) (j79 (sA c 9 ((a4 + a5)).toNatClampNeg (-1000000 : Int32))) else j79 c)) (fun j55 => if a5 < v5 then j55 a1 else j55 a2))
def fX2_wantSets_L6  (a1 : Int32) (a2 : Int32) : Nat → Int32 → SS → Option (SS)
  | 0, _, _ => none
  | n + 1, a3, c => if (8 : Int32) ≤ a3 then some c else ald 8 (c.2 2) a3 (fun v3 => fX2_wantSets_L29 (fun (c11 : SS) => fX2_wantSets_L6 a1 a2 n (a3 + (1 : Int32)) c11) a1 a2 a3 (v3 * (11 : Int32)) fu (0 : Int32) c)
def fX2_wantSets (c : SS) (p1 : Int32) (p2 : Int32) : Option (SS) := Option.bind (fX2_clearGain c) (fun q1 => fX2_wantSets_L6 p1 p2 fu (0 : Int32) q1)
set_option maxRecDepth 20000 in
theorem ctX2_wantSets_L29 (l : Launch) (G : tg_G) (A : Nat → Nat) (k : SS → Option (SS)) (a1 : Int32) (a2 : Int32) (a3 : Int32) (a4 : Int32) {z : SS} (hk : ∀ (ec : SS), k ec = some z → V l G (tg_Zm G (fun v w1 => v = none ∧ w1 = wC G A z) 0 0) tg_E0 (tg_R 1 21) "TramGod$Planner" "wantSets" cX2_wantSets 7 none 85 [(0, .ref (A 13)), (1, .int a1), (2, .int a2), (3, .int a3)] [] (wC G A ec) 0 0) : ∀ (n : Nat) (a5 : Int32) (c : SS), fX2_wantSets_L29 k a1 a2 a3 a4 n a5 c = some z → V l G (tg_Zm G (fun v w1 => v = none ∧ w1 = wC G A z) 0 0) tg_E0 (tg_R 1 21) "TramGod$Planner" "wantSets" cX2_wantSets 7 none 29 [(0, .ref (A 13)), (1, .int a1), (2, .int a2), (3, .int a3), (4, .int a4), (5, .int a5)] [] (wC G A c) 0 0 := by
  intro n
  induction n with
  | zero => intro a5 c h; exact absurd h (by simp [fX2_wantSets_L29])
  | succ n ih =>
    intro a5 c h
    unfold fX2_wantSets_L29 at h
    refine V_iload eX2_wantSets_29 5 rfl ?_
    refine V_bipush (v := (11 : Int32)) eX2_wantSets_31 rfl ?_
    refine V_icmp_ge (tgt := 85) eX2_wantSets_33 rfl (fun hb4 => ?_) (fun hb4 => ?_)
    · replace h := (if_pos hb4).symm.trans h
      refine V_lv (lv' := [(0, .ref (A 13)), (1, .int a1), (2, .int a2), (3, .int a3)]) [0, 1, 2, 3] rfl ?_
      exact hk c h
    · replace h := (if_neg hb4).symm.trans h
      refine V_aload_n eX2_wantSets_36 0 rfl ?_
      refine V_get (v := .ref (A 11)) eX2_wantSets_37 inX2 13 rfl rfl 1 (Nat.le_of_ble_eq_true rfl) tw_134 rfl ?_
      refine V_get (v := .ref (A 12)) eX2_wantSets_40 inX4 11 rfl rfl 1 (Nat.le_of_ble_eq_true rfl) tw_121 rfl ?_
      refine V_iload_n eX2_wantSets_43 3 rfl ?_
      obtain ⟨v5, hi5, ev5, h⟩ := ald_some h
      refine V_ialdv eX2_wantSets_44 12 rfl hi5 ev5 ?_
      refine V_iload eX2_wantSets_45 5 rfl ?_
      refine jn_elim h (fun j => ∀ (x6 : Int32), j x6 = some z → V l G (tg_Zm G (fun v w1 => v = none ∧ w1 = wC G A z) 0 0) tg_E0 (tg_R 1 21) "TramGod$Planner" "wantSets" cX2_wantSets 7 none 55 [(0, .ref (A 13)), (1, .int a1), (2, .int a2), (3, .int a3), (4, .int a4), (5, .int a5)] [.int x6] (wC G A c) 0 0) ?_ (fun j55 hj55 h => ?_)
      · intro x6 h
        refine V_istore (lv' := [(6, .int x6), (0, .ref (A 13)), (1, .int a1), (2, .int a2), (3, .int a3), (4, .int a4), (5, .int a5)]) eX2_wantSets_55 (Nat.le_of_ble_eq_true rfl) rfl ?_
        refine V_iload eX2_wantSets_57 0 rfl ?_
        refine V_iload_n eX2_wantSets_59 4 rfl ?_
        refine V_ishr eX2_wantSets_60 ?_
        refine V_iconst (v := (1 : Int32)) eX2_wantSets_61 rfl ?_
        refine V_iand eX2_wantSets_62 ?_
        refine V_iconst (v := (1 : Int32)) eX2_wantSets_63 rfl ?_
        refine jn_elim h (fun j => ∀ (c7 : SS), j c7 = some z → V l G (tg_Zm G (fun v w1 => v = none ∧ w1 = wC G A z) 0 0) tg_E0 (tg_R 1 21) "TramGod$Planner" "wantSets" cX2_wantSets 7 none 79 [(0, .ref (A 13)), (1, .int a1), (2, .int a2), (3, .int a3), (4, .int a4), (5, .int a5)] [] (wC G A c7) 0 0) ?_ (fun j79 hj79 h => ?_)
        · intro c7 h
          refine V_iinc (v := (a5 + (1 : Int32))) (lv' := [(5, .int (a5 + (1 : Int32))), (0, .ref (A 13)), (1, .int a1), (2, .int a2), (3, .int a3), (4, .int a4)]) eX2_wantSets_79 5 rfl rfl (Nat.le_of_ble_eq_true rfl) rfl ?_
          refine V_goto (tgt := 29) eX2_wantSets_82 rfl ?_
          refine V_lv (lv' := [(0, .ref (A 13)), (1, .int a1), (2, .int a2), (3, .int a3), (4, .int a4), (5, .int (a5 + (1 : Int32)))]) [1, 2, 3, 4, 5, 0] rfl ?_
          exact ih (a5 + (1 : Int32)) c7 h
        refine V_icmp_ne (tgt := 79) eX2_wantSets_64 rfl (fun hb8 => ?_) (fun hb8 => ?_)
        · replace h := (if_neg hb8).symm.trans h
          refine V_lv (lv' := [(0, .ref (A 13)), (1, .int a1), (2, .int a2), (3, .int a3), (4, .int a4), (5, .int a5)]) [1, 2, 3, 4, 5, 6] rfl ?_
          exact hj79 c h
        · replace h := (if_pos hb8).symm.trans h
          refine V_aload_n eX2_wantSets_67 1 rfl ?_
          refine V_get (v := .ref (A 14)) eX2_wantSets_68 inX2 13 rfl rfl 2 (Nat.le_of_ble_eq_true rfl) tw_135 rfl ?_
          refine V_iload eX2_wantSets_71 5 rfl ?_
          refine V_iload eX2_wantSets_73 6 rfl ?_
          refine V_iadd eX2_wantSets_75 ?_
          refine V_ldc eX2_wantSets_76 tw_465 ?_
          obtain ⟨hi9, h⟩ := ckb_some h
          refine V_iast (w' := wC G A (sA c 9 ((a4 + a5)).toNatClampNeg (-1000000 : Int32))) eX2_wantSets_78 14 rfl hi9 rfl ?_
          refine V_lv (lv' := [(0, .ref (A 13)), (1, .int a1), (2, .int a2), (3, .int a3), (4, .int a4), (5, .int a5)]) [1, 2, 3, 4, 5, 6] rfl ?_
          exact hj79 (sA c 9 ((a4 + a5)).toNatClampNeg (-1000000 : Int32)) h
      refine V_icmp_gt (tgt := 54) eX2_wantSets_47 rfl (fun hb10 => ?_) (fun hb10 => ?_)
      · replace h := (if_pos hb10).symm.trans h
        refine V_iload_n eX2_wantSets_54 1 rfl ?_
        exact hj55 a1 h
      · replace h := (if_neg hb10).symm.trans h
        refine V_iload_n eX2_wantSets_50 2 rfl ?_
        refine V_goto (tgt := 55) eX2_wantSets_51 rfl ?_
        exact hj55 a2 h
set_option maxRecDepth 20000 in
theorem ctX2_wantSets_L6 (l : Launch) (G : tg_G) (A : Nat → Nat)  (a1 : Int32) (a2 : Int32) {z : SS}  : ∀ (n : Nat) (a3 : Int32) (c : SS), fX2_wantSets_L6 a1 a2 n a3 c = some z → V l G (tg_Zm G (fun v w1 => v = none ∧ w1 = wC G A z) 0 0) tg_E0 (tg_R 1 21) "TramGod$Planner" "wantSets" cX2_wantSets 7 none 6 [(0, .ref (A 13)), (1, .int a1), (2, .int a2), (3, .int a3)] [] (wC G A c) 0 0 := by
  intro n
  induction n with
  | zero => intro a3 c h; exact absurd h (by simp [fX2_wantSets_L6])
  | succ n ih =>
    intro a3 c h
    unfold fX2_wantSets_L6 at h
    refine V_iload_n eX2_wantSets_6 3 rfl ?_
    refine V_bipush (v := (8 : Int32)) eX2_wantSets_7 rfl ?_
    refine V_icmp_ge (tgt := 91) eX2_wantSets_9 rfl (fun hb2 => ?_) (fun hb2 => ?_)
    · replace h := (if_pos hb2).symm.trans h
      obtain rfl := Option.some.inj h
      exact V_vret eX2_wantSets_91 rfl ⟨rfl, rfl⟩
    · replace h := (if_neg hb2).symm.trans h
      refine V_aload_n eX2_wantSets_12 0 rfl ?_
      refine V_get (v := .ref (A 3)) eX2_wantSets_13 inX2 13 rfl rfl 0 (Nat.le_of_ble_eq_true rfl) tw_133 rfl ?_
      refine V_get (v := .ref (A 5)) eX2_wantSets_16 inX5 3 rfl rfl 9 (Nat.le_of_ble_eq_true rfl) tw_66 rfl ?_
      refine V_iload_n eX2_wantSets_19 3 rfl ?_
      obtain ⟨v3, hi3, ev3, h⟩ := ald_some h
      refine V_ialdv eX2_wantSets_20 5 rfl hi3 ev3 ?_
      refine V_bipush (v := (11 : Int32)) eX2_wantSets_21 rfl ?_
      refine V_imul eX2_wantSets_23 ?_
      refine V_istore (lv' := [(4, .int (v3 * (11 : Int32))), (0, .ref (A 13)), (1, .int a1), (2, .int a2), (3, .int a3)]) eX2_wantSets_24 (Nat.le_of_ble_eq_true rfl) rfl ?_
      refine V_iconst (v := (0 : Int32)) eX2_wantSets_26 rfl ?_
      refine V_istore (lv' := [(5, .int (0 : Int32)), (4, .int (v3 * (11 : Int32))), (0, .ref (A 13)), (1, .int a1), (2, .int a2), (3, .int a3)]) eX2_wantSets_27 (Nat.le_of_ble_eq_true rfl) rfl ?_
      refine V_lv (lv' := [(0, .ref (A 13)), (1, .int a1), (2, .int a2), (3, .int a3), (4, .int (v3 * (11 : Int32))), (5, .int (0 : Int32))]) [2, 3, 4, 5, 1, 0] rfl ?_
      refine ctX2_wantSets_L29 l G A _ a1 a2 a3 (v3 * (11 : Int32)) ?_ fu (0 : Int32) c h
      · intro c11 h
        refine V_iinc (v := (a3 + (1 : Int32))) (lv' := [(3, .int (a3 + (1 : Int32))), (0, .ref (A 13)), (1, .int a1), (2, .int a2)]) eX2_wantSets_85 3 rfl rfl (Nat.le_of_ble_eq_true rfl) rfl ?_
        refine V_goto (tgt := 6) eX2_wantSets_88 rfl ?_
        refine V_lv (lv' := [(0, .ref (A 13)), (1, .int a1), (2, .int a2), (3, .int (a3 + (1 : Int32)))]) [1, 2, 3, 0] rfl ?_
        exact ih (a3 + (1 : Int32)) c11 h
set_option maxRecDepth 20000 in
theorem ctX2_wantSets (l : Launch) (G : tg_G) (A : Nat → Nat) (c : SS) (p1 : Int32) (p2 : Int32) {z : SS} (h : fX2_wantSets c p1 p2 = some z) : Mt l G yX2_wantSets cX2_wantSets 7 none (tg_R 1 21) [.ref (A 13), .int p1, .int p2] (wC G A c) (fun v w1 => v = none ∧ w1 = wC G A z) := by
  refine Mt_of2 (own := "TramGod$Planner") (nm := "wantSets") rfl rfl rfl (Nat.le_of_ble_eq_true rfl) (lv := [(0, .ref (A 13)), (1, .int p1), (2, .int p2)]) rfl ?_
  unfold fX2_wantSets at h
  refine V_aload_n eX2_wantSets_0 0 rfl ?_
  obtain ⟨q1, hc1, h⟩ := Option.bind_eq_some_iff.mp h
  refine V_callVv (rest := []) eX2_wantSets_1 (ctX2_clearGain l G A c hc1) tc_418 tw_415 tw_5 tw_417 ts_8 13 rfl rfl hdX2_clearGain rfl ⟨Nat.le_of_ble_eq_true rfl, Nat.le_of_ble_eq_true rfl⟩ rfl (Nat.le_of_ble_eq_true rfl) ⟨Nat.zero_le _, Nat.zero_le _⟩ ?_
  refine V_iconst (v := (0 : Int32)) eX2_wantSets_4 rfl ?_
  refine V_istore_n (lv' := [(3, .int (0 : Int32)), (0, .ref (A 13)), (1, .int p1), (2, .int p2)]) eX2_wantSets_5 (Nat.le_of_ble_eq_true rfl) rfl ?_
  refine V_lv (lv' := [(0, .ref (A 13)), (1, .int p1), (2, .int p2), (3, .int (0 : Int32))]) [1, 2, 3, 0] rfl ?_
  refine ctX2_wantSets_L6 l G A p1 p2 fu (0 : Int32) q1 h
theorem hdX6_fewestBreaths : yX6_fewestBreaths.cls ≠ "java/lang/invoke/MethodHandle" ∧ yX6_fewestBreaths.cls ≠ "java/lang/invoke/VarHandle" ∧ (parseMethodDescriptor yX6_fewestBreaths.desc).map (fun d => d.parameters.length) = some 2 := by decide +kernel
theorem eX6_fewestBreaths_0 : Dc cX6_fewestBreaths 0 (.aload_n 0) 1 1 := ⟨by decide +kernel, rfl⟩
theorem eX6_fewestBreaths_1 : Dc cX6_fewestBreaths 1 (.getfield 32) 3 4 := ⟨by decide +kernel, rfl⟩
theorem eX6_fewestBreaths_4 : Dc cX6_fewestBreaths 4 (.aload_n 0) 1 5 := ⟨by decide +kernel, rfl⟩
theorem eX6_fewestBreaths_5 : Dc cX6_fewestBreaths 5 (.getfield 19) 3 8 := ⟨by decide +kernel, rfl⟩
theorem eX6_fewestBreaths_8 : Dc cX6_fewestBreaths 8 (.getfield 94) 3 11 := ⟨by decide +kernel, rfl⟩
theorem eX6_fewestBreaths_11 : Dc cX6_fewestBreaths 11 (.invokevirtual 182) 3 14 := ⟨by decide +kernel, rfl⟩
theorem eX6_fewestBreaths_14 : Dc cX6_fewestBreaths 14 (.aload_n 0) 1 15 := ⟨by decide +kernel, rfl⟩
theorem eX6_fewestBreaths_15 : Dc cX6_fewestBreaths 15 (.getfield 41) 3 18 := ⟨by decide +kernel, rfl⟩
theorem eX6_fewestBreaths_18 : Dc cX6_fewestBreaths 18 (.iload_n 1) 1 19 := ⟨by decide +kernel, rfl⟩
theorem eX6_fewestBreaths_19 : Dc cX6_fewestBreaths 19 (.iload_n 2) 1 20 := ⟨by decide +kernel, rfl⟩
theorem eX6_fewestBreaths_20 : Dc cX6_fewestBreaths 20 (.invokevirtual 223) 3 23 := ⟨by decide +kernel, rfl⟩
theorem eX6_fewestBreaths_23 : Dc cX6_fewestBreaths 23 (.aload_n 0) 1 24 := ⟨by decide +kernel, rfl⟩
theorem eX6_fewestBreaths_24 : Dc cX6_fewestBreaths 24 (.getfield 41) 3 27 := ⟨by decide +kernel, rfl⟩
theorem eX6_fewestBreaths_27 : Dc cX6_fewestBreaths 27 (.iconst (-1)) 1 28 := ⟨by decide +kernel, rfl⟩
theorem eX6_fewestBreaths_28 : Dc cX6_fewestBreaths 28 (.invokevirtual 230) 3 31 := ⟨by decide +kernel, rfl⟩
theorem eX6_fewestBreaths_31 : Dc cX6_fewestBreaths 31 (.aload_n 0) 1 32 := ⟨by decide +kernel, rfl⟩
theorem eX6_fewestBreaths_32 : Dc cX6_fewestBreaths 32 (.getfield 41) 3 35 := ⟨by decide +kernel, rfl⟩
theorem eX6_fewestBreaths_35 : Dc cX6_fewestBreaths 35 (.aload_n 0) 1 36 := ⟨by decide +kernel, rfl⟩
theorem eX6_fewestBreaths_36 : Dc cX6_fewestBreaths 36 (.getfield 19) 3 39 := ⟨by decide +kernel, rfl⟩
theorem eX6_fewestBreaths_39 : Dc cX6_fewestBreaths 39 (.getfield 130) 3 42 := ⟨by decide +kernel, rfl⟩
theorem eX6_fewestBreaths_42 : Dc cX6_fewestBreaths 42 (.invokevirtual 236) 3 45 := ⟨by decide +kernel, rfl⟩
theorem eX6_fewestBreaths_45 : Dc cX6_fewestBreaths 45 (.istore_n 3) 1 46 := ⟨by decide +kernel, rfl⟩
theorem eX6_fewestBreaths_46 : Dc cX6_fewestBreaths 46 (.iload_n 3) 1 47 := ⟨by decide +kernel, rfl⟩
theorem eX6_fewestBreaths_47 : Dc cX6_fewestBreaths 47 (.ldc 239) 2 49 := ⟨by decide +kernel, rfl⟩
theorem eX6_fewestBreaths_49 : Dc cX6_fewestBreaths 49 (.if_icmp .gt 8) 3 52 := ⟨by decide +kernel, rfl⟩
theorem eX6_fewestBreaths_52 : Dc cX6_fewestBreaths 52 (.bipush (-6)) 2 54 := ⟨by decide +kernel, rfl⟩
theorem eX6_fewestBreaths_54 : Dc cX6_fewestBreaths 54 (.goto 5) 3 57 := ⟨by decide +kernel, rfl⟩
theorem eX6_fewestBreaths_57 : Dc cX6_fewestBreaths 57 (.iload_n 3) 1 58 := ⟨by decide +kernel, rfl⟩
theorem eX6_fewestBreaths_58 : Dc cX6_fewestBreaths 58 (.ineg) 1 59 := ⟨by decide +kernel, rfl⟩
theorem eX6_fewestBreaths_59 : Dc cX6_fewestBreaths 59 (.ireturn) 1 60 := ⟨by decide +kernel, rfl⟩
def fX6_fewestBreaths (c : SS) (p1 : Int32) (p2 : Int32) : Option (Int32 × SS) := Option.bind (fX4_measure c (c.1 2)) (fun q1 => Option.bind (fX2_wantSets q1 p1 p2) (fun q2 => Option.bind (fX2_weighAll q2 (-1 : Int32)) (fun q3 => Option.bind (fX2_solve q3 (q3.1 3)) (fun q4 => if (-500000 : Int32) < q4.1 then some ((-q4.1), q4.2) else some ((-6 : Int32), q4.2)))))
set_option maxRecDepth 20000 in
theorem ctX6_fewestBreaths (l : Launch) (G : tg_G) (A : Nat → Nat) (c : SS) (p1 : Int32) (p2 : Int32) {z : Int32 × SS} (h : fX6_fewestBreaths c p1 p2 = some z) : Mt l G yX6_fewestBreaths cX6_fewestBreaths 4 (some .int) (tg_R 4 94) [.ref (A 0), .int p1, .int p2] (wC G A c) (fun v w1 => v = some (.int z.1) ∧ w1 = wC G A z.2) := by
  refine Mt_of2 (own := "TramGod") (nm := "fewestBreaths") rfl rfl rfl (Nat.le_of_ble_eq_true rfl) (lv := [(0, .ref (A 0)), (1, .int p1), (2, .int p2)]) rfl ?_
  unfold fX6_fewestBreaths at h
  refine V_aload_n eX6_fewestBreaths_0 0 rfl ?_
  refine V_get (v := .ref (A 11)) eX6_fewestBreaths_1 inX6 0 rfl rfl 3 (Nat.le_of_ble_eq_true rfl) tw_210 rfl ?_
  refine V_aload_n eX6_fewestBreaths_4 0 rfl ?_
  refine V_get (v := .ref (A 3)) eX6_fewestBreaths_5 inX6 0 rfl rfl 1 (Nat.le_of_ble_eq_true rfl) tw_208 rfl ?_
  refine V_get (v := .int (c.1 2)) eX6_fewestBreaths_8 inX5 3 rfl rfl 1 (Nat.le_of_ble_eq_true rfl) tw_47 rfl ?_
  obtain ⟨q1, hc1, h⟩ := Option.bind_eq_some_iff.mp h
  refine V_callVv (rest := []) eX6_fewestBreaths_11 (ctX4_measure l G A c (c.1 2) hc1) tc_352 tw_349 tw_4 tw_350 tw_351 11 rfl rfl hdX4_measure rfl ⟨Nat.le_of_ble_eq_true rfl, Nat.le_of_ble_eq_true rfl⟩ rfl (Nat.le_of_ble_eq_true rfl) ⟨Nat.zero_le _, Nat.zero_le _⟩ ?_
  refine V_aload_n eX6_fewestBreaths_14 0 rfl ?_
  refine V_get (v := .ref (A 13)) eX6_fewestBreaths_15 inX6 0 rfl rfl 4 (Nat.le_of_ble_eq_true rfl) tw_211 rfl ?_
  refine V_iload_n eX6_fewestBreaths_18 1 rfl ?_
  refine V_iload_n eX6_fewestBreaths_19 2 rfl ?_
  obtain ⟨q2, hc2, h⟩ := Option.bind_eq_some_iff.mp h
  refine V_callVv (rest := []) eX6_fewestBreaths_20 (ctX2_wantSets l G A q1 p1 p2 hc2) tc_464 tw_461 tw_5 tw_462 tw_463 13 rfl rfl hdX2_wantSets rfl ⟨Nat.le_of_ble_eq_true rfl, Nat.le_of_ble_eq_true rfl⟩ rfl (Nat.le_of_ble_eq_true rfl) ⟨Nat.zero_le _, Nat.zero_le _⟩ ?_
  refine V_aload_n eX6_fewestBreaths_23 0 rfl ?_
  refine V_get (v := .ref (A 13)) eX6_fewestBreaths_24 inX6 0 rfl rfl 4 (Nat.le_of_ble_eq_true rfl) tw_211 rfl ?_
  refine V_iconst (v := (-1 : Int32)) eX6_fewestBreaths_27 rfl ?_
  obtain ⟨q3, hc3, h⟩ := Option.bind_eq_some_iff.mp h
  refine V_callVv (rest := []) eX6_fewestBreaths_28 (ctX2_weighAll l G A q2 (-1 : Int32) hc3) tc_422 tw_419 tw_5 tw_420 tw_421 13 rfl rfl hdX2_weighAll rfl ⟨Nat.le_of_ble_eq_true rfl, Nat.le_of_ble_eq_true rfl⟩ rfl (Nat.le_of_ble_eq_true rfl) ⟨Nat.zero_le _, Nat.zero_le _⟩ ?_
  refine V_aload_n eX6_fewestBreaths_31 0 rfl ?_
  refine V_get (v := .ref (A 13)) eX6_fewestBreaths_32 inX6 0 rfl rfl 4 (Nat.le_of_ble_eq_true rfl) tw_211 rfl ?_
  refine V_aload_n eX6_fewestBreaths_35 0 rfl ?_
  refine V_get (v := .ref (A 3)) eX6_fewestBreaths_36 inX6 0 rfl rfl 1 (Nat.le_of_ble_eq_true rfl) tw_208 rfl ?_
  refine V_get (v := .int (q3.1 3)) eX6_fewestBreaths_39 inX5 3 rfl rfl 2 (Nat.le_of_ble_eq_true rfl) tw_51 rfl ?_
  obtain ⟨q4, hc4, h⟩ := Option.bind_eq_some_iff.mp h
  refine V_callVi (rest := []) eX6_fewestBreaths_42 (ctX2_solve l G A q3 (q3.1 3) hc4) tc_426 tw_423 tw_5 tw_424 tw_425 13 rfl rfl hdX2_solve rfl ⟨Nat.le_of_ble_eq_true rfl, Nat.le_of_ble_eq_true rfl⟩ rfl (Nat.le_of_ble_eq_true rfl) ⟨Nat.zero_le _, Nat.zero_le _⟩ ?_
  refine V_istore_n (lv' := [(3, .int q4.1), (0, .ref (A 0)), (1, .int p1), (2, .int p2)]) eX6_fewestBreaths_45 (Nat.le_of_ble_eq_true rfl) rfl ?_
  refine V_iload_n eX6_fewestBreaths_46 0 rfl ?_
  refine V_ldc eX6_fewestBreaths_47 tw_466 ?_
  refine V_icmp_gt (tgt := 57) eX6_fewestBreaths_49 rfl (fun hb5 => ?_) (fun hb5 => ?_)
  · replace h := (if_pos hb5).symm.trans h
    refine V_iload_n eX6_fewestBreaths_57 0 rfl ?_
    refine V_ineg eX6_fewestBreaths_58 ?_
    obtain rfl := Option.some.inj h
    exact V_ret eX6_fewestBreaths_59 rfl ⟨rfl, rfl⟩
  · replace h := (if_neg hb5).symm.trans h
    refine V_bipush (v := (-6 : Int32)) eX6_fewestBreaths_52 rfl ?_
    refine V_goto (tgt := 59) eX6_fewestBreaths_54 rfl ?_
    obtain rfl := Option.some.inj h
    exact V_ret eX6_fewestBreaths_59 rfl ⟨rfl, rfl⟩
theorem hdX6_meant : yX6_meant.cls ≠ "java/lang/invoke/MethodHandle" ∧ yX6_meant.cls ≠ "java/lang/invoke/VarHandle" ∧ (parseMethodDescriptor yX6_meant.desc).map (fun d => d.parameters.length) = some 3 := by decide +kernel
theorem eX6_meant_0 : Dc cX6_meant 0 (.aload_n 0) 1 1 := ⟨by decide +kernel, rfl⟩
theorem eX6_meant_1 : Dc cX6_meant 1 (.iload_n 3) 1 2 := ⟨by decide +kernel, rfl⟩
theorem eX6_meant_2 : Dc cX6_meant 2 (.invokevirtual 166) 3 5 := ⟨by decide +kernel, rfl⟩
theorem eX6_meant_5 : Dc cX6_meant 5 (.ifCond .ne 5) 3 8 := ⟨by decide +kernel, rfl⟩
theorem eX6_meant_8 : Dc cX6_meant 8 (.iconst (-1)) 1 9 := ⟨by decide +kernel, rfl⟩
theorem eX6_meant_9 : Dc cX6_meant 9 (.ireturn) 1 10 := ⟨by decide +kernel, rfl⟩
theorem eX6_meant_10 : Dc cX6_meant 10 (.aload_n 0) 1 11 := ⟨by decide +kernel, rfl⟩
theorem eX6_meant_11 : Dc cX6_meant 11 (.iload_n 1) 1 12 := ⟨by decide +kernel, rfl⟩
theorem eX6_meant_12 : Dc cX6_meant 12 (.iload_n 2) 1 13 := ⟨by decide +kernel, rfl⟩
theorem eX6_meant_13 : Dc cX6_meant 13 (.invokevirtual 175) 3 16 := ⟨by decide +kernel, rfl⟩
theorem eX6_meant_16 : Dc cX6_meant 16 (.ifCond .ne 6) 3 19 := ⟨by decide +kernel, rfl⟩
theorem eX6_meant_19 : Dc cX6_meant 19 (.bipush (-2)) 2 21 := ⟨by decide +kernel, rfl⟩
theorem eX6_meant_21 : Dc cX6_meant 21 (.ireturn) 1 22 := ⟨by decide +kernel, rfl⟩
theorem eX6_meant_22 : Dc cX6_meant 22 (.aload_n 0) 1 23 := ⟨by decide +kernel, rfl⟩
theorem eX6_meant_23 : Dc cX6_meant 23 (.iload_n 1) 1 24 := ⟨by decide +kernel, rfl⟩
theorem eX6_meant_24 : Dc cX6_meant 24 (.iload_n 2) 1 25 := ⟨by decide +kernel, rfl⟩
theorem eX6_meant_25 : Dc cX6_meant 25 (.invokevirtual 179) 3 28 := ⟨by decide +kernel, rfl⟩
theorem eX6_meant_28 : Dc cX6_meant 28 (.istore 4) 2 30 := ⟨by decide +kernel, rfl⟩
theorem eX6_meant_30 : Dc cX6_meant 30 (.iload_n 3) 1 31 := ⟨by decide +kernel, rfl⟩
theorem eX6_meant_31 : Dc cX6_meant 31 (.iconst (-1)) 1 32 := ⟨by decide +kernel, rfl⟩
theorem eX6_meant_32 : Dc cX6_meant 32 (.if_icmp .eq 10) 3 35 := ⟨by decide +kernel, rfl⟩
theorem eX6_meant_35 : Dc cX6_meant 35 (.iload 4) 2 37 := ⟨by decide +kernel, rfl⟩
theorem eX6_meant_37 : Dc cX6_meant 37 (.bipush (-6)) 2 39 := ⟨by decide +kernel, rfl⟩
theorem eX6_meant_39 : Dc cX6_meant 39 (.if_icmp .ne 8) 3 42 := ⟨by decide +kernel, rfl⟩
theorem eX6_meant_42 : Dc cX6_meant 42 (.iload 4) 2 44 := ⟨by decide +kernel, rfl⟩
theorem eX6_meant_44 : Dc cX6_meant 44 (.goto 11) 3 47 := ⟨by decide +kernel, rfl⟩
theorem eX6_meant_47 : Dc cX6_meant 47 (.aload_n 0) 1 48 := ⟨by decide +kernel, rfl⟩
theorem eX6_meant_48 : Dc cX6_meant 48 (.getfield 41) 3 51 := ⟨by decide +kernel, rfl⟩
theorem eX6_meant_51 : Dc cX6_meant 51 (.iload_n 3) 1 52 := ⟨by decide +kernel, rfl⟩
theorem eX6_meant_52 : Dc cX6_meant 52 (.invokevirtual 172) 3 55 := ⟨by decide +kernel, rfl⟩
theorem eX6_meant_55 : Dc cX6_meant 55 (.ireturn) 1 56 := ⟨by decide +kernel, rfl⟩
def fX6_meant (c : SS) (p1 : Int32) (p2 : Int32) (p3 : Int32) : Option (Int32 × SS) := if (fX6_isStopOrAll c p3) = (0 : Int32) then some ((-1 : Int32), c) else if (fX6_areSets c p1 p2) = (0 : Int32) then some ((-2 : Int32), c) else Option.bind (fX6_fewestBreaths c p1 p2) (fun q3 => if p3 = (-1 : Int32) then some (q3.1, q3.2) else if q3.1 = (-6 : Int32) then some (q3.1, q3.2) else Option.bind (fX2_breathsAt q3.2 p3) (fun q6 => some (q6, q3.2)))
set_option maxRecDepth 20000 in
theorem ctX6_meant (l : Launch) (G : tg_G) (A : Nat → Nat) (c : SS) (p1 : Int32) (p2 : Int32) (p3 : Int32) {z : Int32 × SS} (h : fX6_meant c p1 p2 p3 = some z) : Mt l G yX6_meant cX6_meant 5 (some .int) (tg_R 5 117) [.ref (A 0), .int p1, .int p2, .int p3] (wC G A c) (fun v w1 => v = some (.int z.1) ∧ w1 = wC G A z.2) := by
  refine Mt_of2 (own := "TramGod") (nm := "meant") rfl rfl rfl (Nat.le_of_ble_eq_true rfl) (lv := [(0, .ref (A 0)), (1, .int p1), (2, .int p2), (3, .int p3)]) rfl ?_
  unfold fX6_meant at h
  refine V_aload_n eX6_meant_0 0 rfl ?_
  refine V_iload_n eX6_meant_1 3 rfl ?_
  refine V_callVi (rest := []) eX6_meant_2 (ctX6_isStopOrAll l G A c p3 rfl) tc_406 tw_403 tw_1 tw_405 ts_6 0 rfl rfl hdX6_isStopOrAll rfl ⟨Nat.le_of_ble_eq_true rfl, Nat.le_of_ble_eq_true rfl⟩ rfl (Nat.le_of_ble_eq_true rfl) ⟨Nat.zero_le _, Nat.zero_le _⟩ ?_
  refine V_if_ne (tgt := 10) eX6_meant_5 rfl (fun hb1 => ?_) (fun hb1 => ?_)
  · replace h := (if_neg hb1).symm.trans h
    refine V_aload_n eX6_meant_10 0 rfl ?_
    refine V_iload_n eX6_meant_11 1 rfl ?_
    refine V_iload_n eX6_meant_12 2 rfl ?_
    refine V_callVi (rest := []) eX6_meant_13 (ctX6_areSets l G A c p1 p2 rfl) tc_456 tw_453 tw_1 tw_455 ts_11 0 rfl rfl hdX6_areSets rfl ⟨Nat.le_of_ble_eq_true rfl, Nat.le_of_ble_eq_true rfl⟩ rfl (Nat.le_of_ble_eq_true rfl) ⟨Nat.zero_le _, Nat.zero_le _⟩ ?_
    refine V_if_ne (tgt := 22) eX6_meant_16 rfl (fun hb2 => ?_) (fun hb2 => ?_)
    · replace h := (if_neg hb2).symm.trans h
      refine V_aload_n eX6_meant_22 0 rfl ?_
      refine V_iload_n eX6_meant_23 1 rfl ?_
      refine V_iload_n eX6_meant_24 2 rfl ?_
      obtain ⟨q3, hc3, h⟩ := Option.bind_eq_some_iff.mp h
      refine V_callVi (rest := []) eX6_meant_25 (ctX6_fewestBreaths l G A c p1 p2 hc3) tc_460 tw_457 tw_1 tw_459 ts_12 0 rfl rfl hdX6_fewestBreaths rfl ⟨Nat.le_of_ble_eq_true rfl, Nat.le_of_ble_eq_true rfl⟩ rfl (Nat.le_of_ble_eq_true rfl) ⟨Nat.zero_le _, Nat.zero_le _⟩ ?_
      refine V_istore (lv' := [(4, .int q3.1), (0, .ref (A 0)), (1, .int p1), (2, .int p2), (3, .int p3)]) eX6_meant_28 (Nat.le_of_ble_eq_true rfl) rfl ?_
      refine V_iload_n eX6_meant_30 4 rfl ?_
      refine V_iconst (v := (-1 : Int32)) eX6_meant_31 rfl ?_
      refine V_icmp_eq (tgt := 42) eX6_meant_32 rfl (fun hb4 => ?_) (fun hb4 => ?_)
      · replace h := (if_pos hb4).symm.trans h
        refine V_iload eX6_meant_42 0 rfl ?_
        refine V_goto (tgt := 55) eX6_meant_44 rfl ?_
        obtain rfl := Option.some.inj h
        exact V_ret eX6_meant_55 rfl ⟨rfl, rfl⟩
      · replace h := (if_neg hb4).symm.trans h
        refine V_iload eX6_meant_35 0 rfl ?_
        refine V_bipush (v := (-6 : Int32)) eX6_meant_37 rfl ?_
        refine V_icmp_ne (tgt := 47) eX6_meant_39 rfl (fun hb5 => ?_) (fun hb5 => ?_)
        · replace h := (if_neg hb5).symm.trans h
          refine V_aload_n eX6_meant_47 1 rfl ?_
          refine V_get (v := .ref (A 13)) eX6_meant_48 inX6 0 rfl rfl 4 (Nat.le_of_ble_eq_true rfl) tw_211 rfl ?_
          refine V_iload_n eX6_meant_51 4 rfl ?_
          obtain ⟨q6, hc6, h⟩ := Option.bind_eq_some_iff.mp h
          refine V_callVi (rest := []) eX6_meant_52 (ctX2_breathsAt l G A q3.2 p3 hc6) tc_443 tw_440 tw_5 tw_441 tw_442 13 rfl rfl hdX2_breathsAt rfl ⟨Nat.le_of_ble_eq_true rfl, Nat.le_of_ble_eq_true rfl⟩ rfl (Nat.le_of_ble_eq_true rfl) ⟨Nat.zero_le _, Nat.zero_le _⟩ ?_
          obtain rfl := Option.some.inj h
          exact V_ret eX6_meant_55 rfl ⟨rfl, rfl⟩
        · replace h := (if_pos hb5).symm.trans h
          refine V_iload eX6_meant_42 0 rfl ?_
          refine V_goto (tgt := 55) eX6_meant_44 rfl ?_
          obtain rfl := Option.some.inj h
          exact V_ret eX6_meant_55 rfl ⟨rfl, rfl⟩
    · replace h := (if_pos hb2).symm.trans h
      refine V_bipush (v := (-2 : Int32)) eX6_meant_19 rfl ?_
      obtain rfl := Option.some.inj h
      exact V_ret eX6_meant_21 rfl ⟨rfl, rfl⟩
  · replace h := (if_pos hb1).symm.trans h
    refine V_iconst (v := (-1 : Int32)) eX6_meant_8 rfl ?_
    obtain rfl := Option.some.inj h
    exact V_ret eX6_meant_9 rfl ⟨rfl, rfl⟩
theorem hdX6_bars : yX6_bars.cls ≠ "java/lang/invoke/MethodHandle" ∧ yX6_bars.cls ≠ "java/lang/invoke/VarHandle" ∧ (parseMethodDescriptor yX6_bars.desc).map (fun d => d.parameters.length) = some 2 := by decide +kernel
theorem eX6_bars_0 : Dc cX6_bars 0 (.aload_n 0) 1 1 := ⟨by decide +kernel, rfl⟩
theorem eX6_bars_1 : Dc cX6_bars 1 (.iload_n 1) 1 2 := ⟨by decide +kernel, rfl⟩
theorem eX6_bars_2 : Dc cX6_bars 2 (.iload_n 2) 1 3 := ⟨by decide +kernel, rfl⟩
theorem eX6_bars_3 : Dc cX6_bars 3 (.invokevirtual 175) 3 6 := ⟨by decide +kernel, rfl⟩
theorem eX6_bars_6 : Dc cX6_bars 6 (.ifCond .ne 6) 3 9 := ⟨by decide +kernel, rfl⟩
theorem eX6_bars_9 : Dc cX6_bars 9 (.bipush (-2)) 2 11 := ⟨by decide +kernel, rfl⟩
theorem eX6_bars_11 : Dc cX6_bars 11 (.ireturn) 1 12 := ⟨by decide +kernel, rfl⟩
theorem eX6_bars_12 : Dc cX6_bars 12 (.aload_n 0) 1 13 := ⟨by decide +kernel, rfl⟩
theorem eX6_bars_13 : Dc cX6_bars 13 (.iload_n 1) 1 14 := ⟨by decide +kernel, rfl⟩
theorem eX6_bars_14 : Dc cX6_bars 14 (.iload_n 2) 1 15 := ⟨by decide +kernel, rfl⟩
theorem eX6_bars_15 : Dc cX6_bars 15 (.invokevirtual 179) 3 18 := ⟨by decide +kernel, rfl⟩
theorem eX6_bars_18 : Dc cX6_bars 18 (.bipush (-6)) 2 20 := ⟨by decide +kernel, rfl⟩
theorem eX6_bars_20 : Dc cX6_bars 20 (.if_icmp .eq 6) 3 23 := ⟨by decide +kernel, rfl⟩
theorem eX6_bars_23 : Dc cX6_bars 23 (.bipush (-6)) 2 25 := ⟨by decide +kernel, rfl⟩
theorem eX6_bars_25 : Dc cX6_bars 25 (.ireturn) 1 26 := ⟨by decide +kernel, rfl⟩
theorem eX6_bars_26 : Dc cX6_bars 26 (.iconst 0) 1 27 := ⟨by decide +kernel, rfl⟩
theorem eX6_bars_27 : Dc cX6_bars 27 (.istore_n 3) 1 28 := ⟨by decide +kernel, rfl⟩
theorem eX6_bars_28 : Dc cX6_bars 28 (.iload_n 3) 1 29 := ⟨by decide +kernel, rfl⟩
theorem eX6_bars_29 : Dc cX6_bars 29 (.bipush 8) 2 31 := ⟨by decide +kernel, rfl⟩
theorem eX6_bars_31 : Dc cX6_bars 31 (.if_icmp .ge 46) 3 34 := ⟨by decide +kernel, rfl⟩
theorem eX6_bars_34 : Dc cX6_bars 34 (.iconst 1) 1 35 := ⟨by decide +kernel, rfl⟩
theorem eX6_bars_35 : Dc cX6_bars 35 (.iload_n 3) 1 36 := ⟨by decide +kernel, rfl⟩
theorem eX6_bars_36 : Dc cX6_bars 36 (.ishl) 1 37 := ⟨by decide +kernel, rfl⟩
theorem eX6_bars_37 : Dc cX6_bars 37 (.istore 4) 2 39 := ⟨by decide +kernel, rfl⟩
theorem eX6_bars_39 : Dc cX6_bars 39 (.iload_n 1) 1 40 := ⟨by decide +kernel, rfl⟩
theorem eX6_bars_40 : Dc cX6_bars 40 (.iload_n 2) 1 41 := ⟨by decide +kernel, rfl⟩
theorem eX6_bars_41 : Dc cX6_bars 41 (.ior) 1 42 := ⟨by decide +kernel, rfl⟩
theorem eX6_bars_42 : Dc cX6_bars 42 (.iload 4) 2 44 := ⟨by decide +kernel, rfl⟩
theorem eX6_bars_44 : Dc cX6_bars 44 (.iand) 1 45 := ⟨by decide +kernel, rfl⟩
theorem eX6_bars_45 : Dc cX6_bars 45 (.ifCond .eq 26) 3 48 := ⟨by decide +kernel, rfl⟩
theorem eX6_bars_48 : Dc cX6_bars 48 (.aload_n 0) 1 49 := ⟨by decide +kernel, rfl⟩
theorem eX6_bars_49 : Dc cX6_bars 49 (.iload_n 1) 1 50 := ⟨by decide +kernel, rfl⟩
theorem eX6_bars_50 : Dc cX6_bars 50 (.iload 4) 2 52 := ⟨by decide +kernel, rfl⟩
theorem eX6_bars_52 : Dc cX6_bars 52 (.iconst (-1)) 1 53 := ⟨by decide +kernel, rfl⟩
theorem eX6_bars_53 : Dc cX6_bars 53 (.ixor) 1 54 := ⟨by decide +kernel, rfl⟩
theorem eX6_bars_54 : Dc cX6_bars 54 (.iand) 1 55 := ⟨by decide +kernel, rfl⟩
theorem eX6_bars_55 : Dc cX6_bars 55 (.iload_n 2) 1 56 := ⟨by decide +kernel, rfl⟩
theorem eX6_bars_56 : Dc cX6_bars 56 (.iload 4) 2 58 := ⟨by decide +kernel, rfl⟩
theorem eX6_bars_58 : Dc cX6_bars 58 (.iconst (-1)) 1 59 := ⟨by decide +kernel, rfl⟩
theorem eX6_bars_59 : Dc cX6_bars 59 (.ixor) 1 60 := ⟨by decide +kernel, rfl⟩
theorem eX6_bars_60 : Dc cX6_bars 60 (.iand) 1 61 := ⟨by decide +kernel, rfl⟩
theorem eX6_bars_61 : Dc cX6_bars 61 (.invokevirtual 179) 3 64 := ⟨by decide +kernel, rfl⟩
theorem eX6_bars_64 : Dc cX6_bars 64 (.bipush (-6)) 2 66 := ⟨by decide +kernel, rfl⟩
theorem eX6_bars_66 : Dc cX6_bars 66 (.if_icmp .eq 5) 3 69 := ⟨by decide +kernel, rfl⟩
theorem eX6_bars_69 : Dc cX6_bars 69 (.iload_n 3) 1 70 := ⟨by decide +kernel, rfl⟩
theorem eX6_bars_70 : Dc cX6_bars 70 (.ireturn) 1 71 := ⟨by decide +kernel, rfl⟩
theorem eX6_bars_71 : Dc cX6_bars 71 (.iinc 3 1) 3 74 := ⟨by decide +kernel, rfl⟩
theorem eX6_bars_74 : Dc cX6_bars 74 (.goto (-46)) 3 77 := ⟨by decide +kernel, rfl⟩
theorem eX6_bars_77 : Dc cX6_bars 77 (.bipush (-6)) 2 79 := ⟨by decide +kernel, rfl⟩
theorem eX6_bars_79 : Dc cX6_bars 79 (.ireturn) 1 80 := ⟨by decide +kernel, rfl⟩
def fX6_bars_L28  (a1 : Int32) (a2 : Int32) : Nat → Int32 → SS → Option (Int32 × SS)
  | 0, _, _ => none
  | n + 1, a3, c => if (8 : Int32) ≤ a3 then some ((-6 : Int32), c) else jn (fun (c5 : SS) => fX6_bars_L28 a1 a2 n (a3 + (1 : Int32)) c5) (fun j71 => if ((a1 ||| a2) &&& ((1 : Int32) <<< (a3 &&& 31))) = (0 : Int32) then j71 c else Option.bind (fX6_fewestBreaths c (a1 &&& (((1 : Int32) <<< (a3 &&& 31)) ^^^ (-1 : Int32))) (a2 &&& (((1 : Int32) <<< (a3 &&& 31)) ^^^ (-1 : Int32)))) (fun q7 => if q7.1 = (-6 : Int32) then j71 q7.2 else some (a3, q7.2)))
def fX6_bars (c : SS) (p1 : Int32) (p2 : Int32) : Option (Int32 × SS) := if (fX6_areSets c p1 p2) = (0 : Int32) then some ((-2 : Int32), c) else Option.bind (fX6_fewestBreaths c p1 p2) (fun q2 => if q2.1 = (-6 : Int32) then fX6_bars_L28 p1 p2 fu (0 : Int32) q2.2 else some ((-6 : Int32), q2.2))
set_option maxRecDepth 20000 in
theorem ctX6_bars_L28 (l : Launch) (G : tg_G) (A : Nat → Nat)  (a1 : Int32) (a2 : Int32) {z : Int32 × SS}  : ∀ (n : Nat) (a3 : Int32) (c : SS), fX6_bars_L28 a1 a2 n a3 c = some z → V l G (tg_Zm G (fun v w1 => v = some (.int z.1) ∧ w1 = wC G A z.2) 0 0) tg_E0 (tg_R 5 117) "TramGod" "bars" cX6_bars 5 (some .int) 28 [(0, .ref (A 0)), (1, .int a1), (2, .int a2), (3, .int a3)] [] (wC G A c) 0 0 := by
  intro n
  induction n with
  | zero => intro a3 c h; exact absurd h (by simp [fX6_bars_L28])
  | succ n ih =>
    intro a3 c h
    unfold fX6_bars_L28 at h
    refine V_iload_n eX6_bars_28 3 rfl ?_
    refine V_bipush (v := (8 : Int32)) eX6_bars_29 rfl ?_
    refine V_icmp_ge (tgt := 77) eX6_bars_31 rfl (fun hb4 => ?_) (fun hb4 => ?_)
    · replace h := (if_pos hb4).symm.trans h
      refine V_bipush (v := (-6 : Int32)) eX6_bars_77 rfl ?_
      obtain rfl := Option.some.inj h
      exact V_ret eX6_bars_79 rfl ⟨rfl, rfl⟩
    · replace h := (if_neg hb4).symm.trans h
      refine V_iconst (v := (1 : Int32)) eX6_bars_34 rfl ?_
      refine V_iload_n eX6_bars_35 3 rfl ?_
      refine V_ishl eX6_bars_36 ?_
      refine V_istore (lv' := [(4, .int ((1 : Int32) <<< (a3 &&& 31))), (0, .ref (A 0)), (1, .int a1), (2, .int a2), (3, .int a3)]) eX6_bars_37 (Nat.le_of_ble_eq_true rfl) rfl ?_
      refine V_iload_n eX6_bars_39 2 rfl ?_
      refine V_iload_n eX6_bars_40 3 rfl ?_
      refine V_ior eX6_bars_41 ?_
      refine V_iload eX6_bars_42 0 rfl ?_
      refine V_iand eX6_bars_44 ?_
      refine jn_elim h (fun j => ∀ (c5 : SS), j c5 = some z → V l G (tg_Zm G (fun v w1 => v = some (.int z.1) ∧ w1 = wC G A z.2) 0 0) tg_E0 (tg_R 5 117) "TramGod" "bars" cX6_bars 5 (some .int) 71 [(0, .ref (A 0)), (1, .int a1), (2, .int a2), (3, .int a3)] [] (wC G A c5) 0 0) ?_ (fun j71 hj71 h => ?_)
      · intro c5 h
        refine V_iinc (v := (a3 + (1 : Int32))) (lv' := [(3, .int (a3 + (1 : Int32))), (0, .ref (A 0)), (1, .int a1), (2, .int a2)]) eX6_bars_71 3 rfl rfl (Nat.le_of_ble_eq_true rfl) rfl ?_
        refine V_goto (tgt := 28) eX6_bars_74 rfl ?_
        refine V_lv (lv' := [(0, .ref (A 0)), (1, .int a1), (2, .int a2), (3, .int (a3 + (1 : Int32)))]) [1, 2, 3, 0] rfl ?_
        exact ih (a3 + (1 : Int32)) c5 h
      refine V_if_eq (tgt := 71) eX6_bars_45 rfl (fun hb6 => ?_) (fun hb6 => ?_)
      · replace h := (if_pos hb6).symm.trans h
        refine V_lv (lv' := [(0, .ref (A 0)), (1, .int a1), (2, .int a2), (3, .int a3)]) [1, 2, 3, 4] rfl ?_
        exact hj71 c h
      · replace h := (if_neg hb6).symm.trans h
        refine V_aload_n eX6_bars_48 1 rfl ?_
        refine V_iload_n eX6_bars_49 2 rfl ?_
        refine V_iload eX6_bars_50 0 rfl ?_
        refine V_iconst (v := (-1 : Int32)) eX6_bars_52 rfl ?_
        refine V_ixor eX6_bars_53 ?_
        refine V_iand eX6_bars_54 ?_
        refine V_iload_n eX6_bars_55 3 rfl ?_
        refine V_iload eX6_bars_56 0 rfl ?_
        refine V_iconst (v := (-1 : Int32)) eX6_bars_58 rfl ?_
        refine V_ixor eX6_bars_59 ?_
        refine V_iand eX6_bars_60 ?_
        obtain ⟨q7, hc7, h⟩ := Option.bind_eq_some_iff.mp h
        refine V_callVi (rest := []) eX6_bars_61 (ctX6_fewestBreaths l G A c (a1 &&& (((1 : Int32) <<< (a3 &&& 31)) ^^^ (-1 : Int32))) (a2 &&& (((1 : Int32) <<< (a3 &&& 31)) ^^^ (-1 : Int32))) hc7) tc_460 tw_457 tw_1 tw_459 ts_12 0 rfl rfl hdX6_fewestBreaths rfl ⟨Nat.le_of_ble_eq_true rfl, Nat.le_of_ble_eq_true rfl⟩ rfl (Nat.le_of_ble_eq_true rfl) ⟨Nat.zero_le _, Nat.zero_le _⟩ ?_
        refine V_bipush (v := (-6 : Int32)) eX6_bars_64 rfl ?_
        refine V_icmp_eq (tgt := 71) eX6_bars_66 rfl (fun hb8 => ?_) (fun hb8 => ?_)
        · replace h := (if_pos hb8).symm.trans h
          refine V_lv (lv' := [(0, .ref (A 0)), (1, .int a1), (2, .int a2), (3, .int a3)]) [1, 2, 3, 4] rfl ?_
          exact hj71 q7.2 h
        · replace h := (if_neg hb8).symm.trans h
          refine V_iload_n eX6_bars_69 4 rfl ?_
          obtain rfl := Option.some.inj h
          exact V_ret eX6_bars_70 rfl ⟨rfl, rfl⟩
set_option maxRecDepth 20000 in
theorem ctX6_bars (l : Launch) (G : tg_G) (A : Nat → Nat) (c : SS) (p1 : Int32) (p2 : Int32) {z : Int32 × SS} (h : fX6_bars c p1 p2 = some z) : Mt l G yX6_bars cX6_bars 5 (some .int) (tg_R 5 117) [.ref (A 0), .int p1, .int p2] (wC G A c) (fun v w1 => v = some (.int z.1) ∧ w1 = wC G A z.2) := by
  refine Mt_of2 (own := "TramGod") (nm := "bars") rfl rfl rfl (Nat.le_of_ble_eq_true rfl) (lv := [(0, .ref (A 0)), (1, .int p1), (2, .int p2)]) rfl ?_
  unfold fX6_bars at h
  refine V_aload_n eX6_bars_0 0 rfl ?_
  refine V_iload_n eX6_bars_1 1 rfl ?_
  refine V_iload_n eX6_bars_2 2 rfl ?_
  refine V_callVi (rest := []) eX6_bars_3 (ctX6_areSets l G A c p1 p2 rfl) tc_456 tw_453 tw_1 tw_455 ts_11 0 rfl rfl hdX6_areSets rfl ⟨Nat.le_of_ble_eq_true rfl, Nat.le_of_ble_eq_true rfl⟩ rfl (Nat.le_of_ble_eq_true rfl) ⟨Nat.zero_le _, Nat.zero_le _⟩ ?_
  refine V_if_ne (tgt := 12) eX6_bars_6 rfl (fun hb1 => ?_) (fun hb1 => ?_)
  · replace h := (if_neg hb1).symm.trans h
    refine V_aload_n eX6_bars_12 0 rfl ?_
    refine V_iload_n eX6_bars_13 1 rfl ?_
    refine V_iload_n eX6_bars_14 2 rfl ?_
    obtain ⟨q2, hc2, h⟩ := Option.bind_eq_some_iff.mp h
    refine V_callVi (rest := []) eX6_bars_15 (ctX6_fewestBreaths l G A c p1 p2 hc2) tc_460 tw_457 tw_1 tw_459 ts_12 0 rfl rfl hdX6_fewestBreaths rfl ⟨Nat.le_of_ble_eq_true rfl, Nat.le_of_ble_eq_true rfl⟩ rfl (Nat.le_of_ble_eq_true rfl) ⟨Nat.zero_le _, Nat.zero_le _⟩ ?_
    refine V_bipush (v := (-6 : Int32)) eX6_bars_18 rfl ?_
    refine V_icmp_eq (tgt := 26) eX6_bars_20 rfl (fun hb3 => ?_) (fun hb3 => ?_)
    · replace h := (if_pos hb3).symm.trans h
      refine V_iconst (v := (0 : Int32)) eX6_bars_26 rfl ?_
      refine V_istore_n (lv' := [(3, .int (0 : Int32)), (0, .ref (A 0)), (1, .int p1), (2, .int p2)]) eX6_bars_27 (Nat.le_of_ble_eq_true rfl) rfl ?_
      refine V_lv (lv' := [(0, .ref (A 0)), (1, .int p1), (2, .int p2), (3, .int (0 : Int32))]) [1, 2, 3, 0] rfl ?_
      refine ctX6_bars_L28 l G A p1 p2 fu (0 : Int32) q2.2 h
    · replace h := (if_neg hb3).symm.trans h
      refine V_bipush (v := (-6 : Int32)) eX6_bars_23 rfl ?_
      obtain rfl := Option.some.inj h
      exact V_ret eX6_bars_25 rfl ⟨rfl, rfl⟩
  · replace h := (if_pos hb1).symm.trans h
    refine V_bipush (v := (-2 : Int32)) eX6_bars_9 rfl ?_
    obtain rfl := Option.some.inj h
    exact V_ret eX6_bars_11 rfl ⟨rfl, rfl⟩
theorem hdX5_comeIn : yX5_comeIn.cls ≠ "java/lang/invoke/MethodHandle" ∧ yX5_comeIn.cls ≠ "java/lang/invoke/VarHandle" ∧ (parseMethodDescriptor yX5_comeIn.desc).map (fun d => d.parameters.length) = some 1 := by decide +kernel
theorem eX5_comeIn_0 : Dc cX5_comeIn 0 (.iconst 0) 1 1 := ⟨by decide +kernel, rfl⟩
theorem eX5_comeIn_1 : Dc cX5_comeIn 1 (.istore_n 2) 1 2 := ⟨by decide +kernel, rfl⟩
theorem eX5_comeIn_2 : Dc cX5_comeIn 2 (.iconst 0) 1 3 := ⟨by decide +kernel, rfl⟩
theorem eX5_comeIn_3 : Dc cX5_comeIn 3 (.istore_n 3) 1 4 := ⟨by decide +kernel, rfl⟩
theorem eX5_comeIn_4 : Dc cX5_comeIn 4 (.iload_n 3) 1 5 := ⟨by decide +kernel, rfl⟩
theorem eX5_comeIn_5 : Dc cX5_comeIn 5 (.bipush 8) 2 7 := ⟨by decide +kernel, rfl⟩
theorem eX5_comeIn_7 : Dc cX5_comeIn 7 (.if_icmp .ge 37) 3 10 := ⟨by decide +kernel, rfl⟩
theorem eX5_comeIn_10 : Dc cX5_comeIn 10 (.aload_n 0) 1 11 := ⟨by decide +kernel, rfl⟩
theorem eX5_comeIn_11 : Dc cX5_comeIn 11 (.iload_n 3) 1 12 := ⟨by decide +kernel, rfl⟩
theorem eX5_comeIn_12 : Dc cX5_comeIn 12 (.invokevirtual 96) 3 15 := ⟨by decide +kernel, rfl⟩
theorem eX5_comeIn_15 : Dc cX5_comeIn 15 (.ifCond .eq 23) 3 18 := ⟨by decide +kernel, rfl⟩
theorem eX5_comeIn_18 : Dc cX5_comeIn 18 (.aload_n 0) 1 19 := ⟨by decide +kernel, rfl⟩
theorem eX5_comeIn_19 : Dc cX5_comeIn 19 (.getfield 40) 3 22 := ⟨by decide +kernel, rfl⟩
theorem eX5_comeIn_22 : Dc cX5_comeIn 22 (.iload_n 3) 1 23 := ⟨by decide +kernel, rfl⟩
theorem eX5_comeIn_23 : Dc cX5_comeIn 23 (.iaload) 1 24 := ⟨by decide +kernel, rfl⟩
theorem eX5_comeIn_24 : Dc cX5_comeIn 24 (.iload_n 1) 1 25 := ⟨by decide +kernel, rfl⟩
theorem eX5_comeIn_25 : Dc cX5_comeIn 25 (.ishr) 1 26 := ⟨by decide +kernel, rfl⟩
theorem eX5_comeIn_26 : Dc cX5_comeIn 26 (.iconst 1) 1 27 := ⟨by decide +kernel, rfl⟩
theorem eX5_comeIn_27 : Dc cX5_comeIn 27 (.iand) 1 28 := ⟨by decide +kernel, rfl⟩
theorem eX5_comeIn_28 : Dc cX5_comeIn 28 (.iconst 1) 1 29 := ⟨by decide +kernel, rfl⟩
theorem eX5_comeIn_29 : Dc cX5_comeIn 29 (.if_icmp .ne 9) 3 32 := ⟨by decide +kernel, rfl⟩
theorem eX5_comeIn_32 : Dc cX5_comeIn 32 (.iload_n 2) 1 33 := ⟨by decide +kernel, rfl⟩
theorem eX5_comeIn_33 : Dc cX5_comeIn 33 (.iconst 1) 1 34 := ⟨by decide +kernel, rfl⟩
theorem eX5_comeIn_34 : Dc cX5_comeIn 34 (.iload_n 3) 1 35 := ⟨by decide +kernel, rfl⟩
theorem eX5_comeIn_35 : Dc cX5_comeIn 35 (.ishl) 1 36 := ⟨by decide +kernel, rfl⟩
theorem eX5_comeIn_36 : Dc cX5_comeIn 36 (.ior) 1 37 := ⟨by decide +kernel, rfl⟩
theorem eX5_comeIn_37 : Dc cX5_comeIn 37 (.istore_n 2) 1 38 := ⟨by decide +kernel, rfl⟩
theorem eX5_comeIn_38 : Dc cX5_comeIn 38 (.iinc 3 1) 3 41 := ⟨by decide +kernel, rfl⟩
theorem eX5_comeIn_41 : Dc cX5_comeIn 41 (.goto (-37)) 3 44 := ⟨by decide +kernel, rfl⟩
theorem eX5_comeIn_44 : Dc cX5_comeIn 44 (.iload_n 2) 1 45 := ⟨by decide +kernel, rfl⟩
theorem eX5_comeIn_45 : Dc cX5_comeIn 45 (.ireturn) 1 46 := ⟨by decide +kernel, rfl⟩
def fX5_comeIn_L4  (c : SS) (a1 : Int32) : Nat → Int32 → Int32 → Option (Int32)
  | 0, _, _ => none
  | n + 1, a2, a3 => if (8 : Int32) ≤ a3 then some a2 else jn (fun (x2 : Int32) => fX5_comeIn_L4 c a1 n x2 (a3 + (1 : Int32))) (fun j38 => if (fX5_isPerson c a3) = (0 : Int32) then j38 a2 else ald 8 (c.2 7) a3 (fun v4 => if ((v4 >>> (a1 &&& 31)) &&& (1 : Int32)) = (1 : Int32) then j38 (a2 ||| ((1 : Int32) <<< (a3 &&& 31))) else j38 a2))
def fX5_comeIn (c : SS) (p1 : Int32) : Option (Int32) := fX5_comeIn_L4 c p1 fu (0 : Int32) (0 : Int32)
set_option maxRecDepth 20000 in
theorem ctX5_comeIn_L4 (l : Launch) (G : tg_G) (A : Nat → Nat)  (c : SS) (a1 : Int32) {z : Int32}  : ∀ (n : Nat) (a2 : Int32) (a3 : Int32), fX5_comeIn_L4 c a1 n a2 a3 = some z → V l G (tg_Zm G (fun v w1 => v = some (.int z) ∧ w1 = wC G A c) 0 0) tg_E0 (tg_R 2 43) "TramGod$World" "comeIn" cX5_comeIn 4 (some .int) 4 [(0, .ref (A 3)), (1, .int a1), (2, .int a2), (3, .int a3)] [] (wC G A c) 0 0 := by
  intro n
  induction n with
  | zero => intro a2 a3 h; exact absurd h (by simp [fX5_comeIn_L4])
  | succ n ih =>
    intro a2 a3 h
    unfold fX5_comeIn_L4 at h
    refine V_iload_n eX5_comeIn_4 3 rfl ?_
    refine V_bipush (v := (8 : Int32)) eX5_comeIn_5 rfl ?_
    refine V_icmp_ge (tgt := 44) eX5_comeIn_7 rfl (fun hb1 => ?_) (fun hb1 => ?_)
    · replace h := (if_pos hb1).symm.trans h
      refine V_iload_n eX5_comeIn_44 2 rfl ?_
      obtain rfl := Option.some.inj h
      exact V_ret eX5_comeIn_45 rfl ⟨rfl, rfl⟩
    · replace h := (if_neg hb1).symm.trans h
      refine V_aload_n eX5_comeIn_10 0 rfl ?_
      refine V_iload_n eX5_comeIn_11 3 rfl ?_
      refine V_callVi (rest := []) eX5_comeIn_12 (ctX5_isPerson l G A c a3 rfl) tc_311 tw_483 tw_3 tw_309 tw_310 3 rfl rfl hdX5_isPerson rfl ⟨Nat.le_of_ble_eq_true rfl, Nat.le_of_ble_eq_true rfl⟩ rfl (Nat.le_of_ble_eq_true rfl) ⟨Nat.zero_le _, Nat.zero_le _⟩ ?_
      refine jn_elim h (fun j => ∀ (x2 : Int32), j x2 = some z → V l G (tg_Zm G (fun v w1 => v = some (.int z) ∧ w1 = wC G A c) 0 0) tg_E0 (tg_R 2 43) "TramGod$World" "comeIn" cX5_comeIn 4 (some .int) 38 [(0, .ref (A 3)), (1, .int a1), (2, .int x2), (3, .int a3)] [] (wC G A c) 0 0) ?_ (fun j38 hj38 h => ?_)
      · intro x2 h
        refine V_iinc (v := (a3 + (1 : Int32))) (lv' := [(3, .int (a3 + (1 : Int32))), (0, .ref (A 3)), (1, .int a1), (2, .int x2)]) eX5_comeIn_38 3 rfl rfl (Nat.le_of_ble_eq_true rfl) rfl ?_
        refine V_goto (tgt := 4) eX5_comeIn_41 rfl ?_
        refine V_lv (lv' := [(0, .ref (A 3)), (1, .int a1), (2, .int x2), (3, .int (a3 + (1 : Int32)))]) [1, 2, 3, 0] rfl ?_
        exact ih x2 (a3 + (1 : Int32)) h
      refine V_if_eq (tgt := 38) eX5_comeIn_15 rfl (fun hb3 => ?_) (fun hb3 => ?_)
      · replace h := (if_pos hb3).symm.trans h
        exact hj38 a2 h
      · replace h := (if_neg hb3).symm.trans h
        refine V_aload_n eX5_comeIn_18 0 rfl ?_
        refine V_get (v := .ref (A 10)) eX5_comeIn_19 inX5 3 rfl rfl 14 (Nat.le_of_ble_eq_true rfl) tw_79 rfl ?_
        refine V_iload_n eX5_comeIn_22 3 rfl ?_
        obtain ⟨v4, hi4, ev4, h⟩ := ald_some h
        refine V_ialdv eX5_comeIn_23 10 rfl hi4 ev4 ?_
        refine V_iload_n eX5_comeIn_24 1 rfl ?_
        refine V_ishr eX5_comeIn_25 ?_
        refine V_iconst (v := (1 : Int32)) eX5_comeIn_26 rfl ?_
        refine V_iand eX5_comeIn_27 ?_
        refine V_iconst (v := (1 : Int32)) eX5_comeIn_28 rfl ?_
        refine V_icmp_ne (tgt := 38) eX5_comeIn_29 rfl (fun hb5 => ?_) (fun hb5 => ?_)
        · replace h := (if_neg hb5).symm.trans h
          exact hj38 a2 h
        · replace h := (if_pos hb5).symm.trans h
          refine V_iload_n eX5_comeIn_32 2 rfl ?_
          refine V_iconst (v := (1 : Int32)) eX5_comeIn_33 rfl ?_
          refine V_iload_n eX5_comeIn_34 3 rfl ?_
          refine V_ishl eX5_comeIn_35 ?_
          refine V_ior eX5_comeIn_36 ?_
          refine V_istore_n (lv' := [(2, .int (a2 ||| ((1 : Int32) <<< (a3 &&& 31)))), (0, .ref (A 3)), (1, .int a1), (3, .int a3)]) eX5_comeIn_37 (Nat.le_of_ble_eq_true rfl) rfl ?_
          refine V_lv (lv' := [(0, .ref (A 3)), (1, .int a1), (2, .int (a2 ||| ((1 : Int32) <<< (a3 &&& 31)))), (3, .int a3)]) [1, 2, 0, 3] rfl ?_
          exact hj38 (a2 ||| ((1 : Int32) <<< (a3 &&& 31))) h
set_option maxRecDepth 20000 in
theorem ctX5_comeIn (l : Launch) (G : tg_G) (A : Nat → Nat) (c : SS) (p1 : Int32) {z : Int32} (h : fX5_comeIn c p1 = some z) : Mt l G yX5_comeIn cX5_comeIn 4 (some .int) (tg_R 2 43) [.ref (A 3), .int p1] (wC G A c) (fun v w1 => v = some (.int z) ∧ w1 = wC G A c) := by
  refine Mt_of2 (own := "TramGod$World") (nm := "comeIn") rfl rfl rfl (Nat.le_of_ble_eq_true rfl) (lv := [(0, .ref (A 3)), (1, .int p1)]) rfl ?_
  unfold fX5_comeIn at h
  refine V_iconst (v := (0 : Int32)) eX5_comeIn_0 rfl ?_
  refine V_istore_n (lv' := [(2, .int (0 : Int32)), (0, .ref (A 3)), (1, .int p1)]) eX5_comeIn_1 (Nat.le_of_ble_eq_true rfl) rfl ?_
  refine V_iconst (v := (0 : Int32)) eX5_comeIn_2 rfl ?_
  refine V_istore_n (lv' := [(3, .int (0 : Int32)), (2, .int (0 : Int32)), (0, .ref (A 3)), (1, .int p1)]) eX5_comeIn_3 (Nat.le_of_ble_eq_true rfl) rfl ?_
  refine V_lv (lv' := [(0, .ref (A 3)), (1, .int p1), (2, .int (0 : Int32)), (3, .int (0 : Int32))]) [2, 3, 1, 0] rfl ?_
  refine ctX5_comeIn_L4 l G A c p1 fu (0 : Int32) (0 : Int32) h
theorem hdX2_spendExactly : yX2_spendExactly.cls ≠ "java/lang/invoke/MethodHandle" ∧ yX2_spendExactly.cls ≠ "java/lang/invoke/VarHandle" ∧ (parseMethodDescriptor yX2_spendExactly.desc).map (fun d => d.parameters.length) = some 3 := by decide +kernel
theorem eX2_spendExactly_0 : Dc cX2_spendExactly 0 (.iconst 0) 1 1 := ⟨by decide +kernel, rfl⟩
theorem eX2_spendExactly_1 : Dc cX2_spendExactly 1 (.istore 4) 2 3 := ⟨by decide +kernel, rfl⟩
theorem eX2_spendExactly_3 : Dc cX2_spendExactly 3 (.iload 4) 2 5 := ⟨by decide +kernel, rfl⟩
theorem eX2_spendExactly_5 : Dc cX2_spendExactly 5 (.iload_n 1) 1 6 := ⟨by decide +kernel, rfl⟩
theorem eX2_spendExactly_6 : Dc cX2_spendExactly 6 (.if_icmp .gt 26) 3 9 := ⟨by decide +kernel, rfl⟩
theorem eX2_spendExactly_9 : Dc cX2_spendExactly 9 (.aload_n 2) 1 10 := ⟨by decide +kernel, rfl⟩
theorem eX2_spendExactly_10 : Dc cX2_spendExactly 10 (.iload_n 3) 1 11 := ⟨by decide +kernel, rfl⟩
theorem eX2_spendExactly_11 : Dc cX2_spendExactly 11 (.iload 4) 2 13 := ⟨by decide +kernel, rfl⟩
theorem eX2_spendExactly_13 : Dc cX2_spendExactly 13 (.iadd) 1 14 := ⟨by decide +kernel, rfl⟩
theorem eX2_spendExactly_14 : Dc cX2_spendExactly 14 (.iload 4) 2 16 := ⟨by decide +kernel, rfl⟩
theorem eX2_spendExactly_16 : Dc cX2_spendExactly 16 (.ifCond .ne 7) 3 19 := ⟨by decide +kernel, rfl⟩
theorem eX2_spendExactly_19 : Dc cX2_spendExactly 19 (.iconst 0) 1 20 := ⟨by decide +kernel, rfl⟩
theorem eX2_spendExactly_20 : Dc cX2_spendExactly 20 (.goto 5) 3 23 := ⟨by decide +kernel, rfl⟩
theorem eX2_spendExactly_23 : Dc cX2_spendExactly 23 (.ldc 51) 2 25 := ⟨by decide +kernel, rfl⟩
theorem eX2_spendExactly_25 : Dc cX2_spendExactly 25 (.iastore) 1 26 := ⟨by decide +kernel, rfl⟩
theorem eX2_spendExactly_26 : Dc cX2_spendExactly 26 (.iinc 4 1) 3 29 := ⟨by decide +kernel, rfl⟩
theorem eX2_spendExactly_29 : Dc cX2_spendExactly 29 (.goto (-26)) 3 32 := ⟨by decide +kernel, rfl⟩
theorem eX2_spendExactly_32 : Dc cX2_spendExactly 32 (.iconst 0) 1 33 := ⟨by decide +kernel, rfl⟩
theorem eX2_spendExactly_33 : Dc cX2_spendExactly 33 (.istore 4) 2 35 := ⟨by decide +kernel, rfl⟩
theorem eX2_spendExactly_35 : Dc cX2_spendExactly 35 (.iload 4) 2 37 := ⟨by decide +kernel, rfl⟩
theorem eX2_spendExactly_37 : Dc cX2_spendExactly 37 (.aload_n 0) 1 38 := ⟨by decide +kernel, rfl⟩
theorem eX2_spendExactly_38 : Dc cX2_spendExactly 38 (.getfield 24) 3 41 := ⟨by decide +kernel, rfl⟩
theorem eX2_spendExactly_41 : Dc cX2_spendExactly 41 (.getfield 52) 3 44 := ⟨by decide +kernel, rfl⟩
theorem eX2_spendExactly_44 : Dc cX2_spendExactly 44 (.if_icmp .ge 98) 3 47 := ⟨by decide +kernel, rfl⟩
theorem eX2_spendExactly_47 : Dc cX2_spendExactly 47 (.iload_n 1) 1 48 := ⟨by decide +kernel, rfl⟩
theorem eX2_spendExactly_48 : Dc cX2_spendExactly 48 (.istore 5) 2 50 := ⟨by decide +kernel, rfl⟩
theorem eX2_spendExactly_50 : Dc cX2_spendExactly 50 (.iload 5) 2 52 := ⟨by decide +kernel, rfl⟩
theorem eX2_spendExactly_52 : Dc cX2_spendExactly 52 (.ifCond .lt 84) 3 55 := ⟨by decide +kernel, rfl⟩
theorem eX2_spendExactly_55 : Dc cX2_spendExactly 55 (.aload_n 0) 1 56 := ⟨by decide +kernel, rfl⟩
theorem eX2_spendExactly_56 : Dc cX2_spendExactly 56 (.getfield 24) 3 59 := ⟨by decide +kernel, rfl⟩
theorem eX2_spendExactly_59 : Dc cX2_spendExactly 59 (.iload 4) 2 61 := ⟨by decide +kernel, rfl⟩
theorem eX2_spendExactly_61 : Dc cX2_spendExactly 61 (.iload 5) 2 63 := ⟨by decide +kernel, rfl⟩
theorem eX2_spendExactly_63 : Dc cX2_spendExactly 63 (.invokevirtual 64) 3 66 := ⟨by decide +kernel, rfl⟩
theorem eX2_spendExactly_66 : Dc cX2_spendExactly 66 (.istore 6) 2 68 := ⟨by decide +kernel, rfl⟩
theorem eX2_spendExactly_68 : Dc cX2_spendExactly 68 (.aload_n 2) 1 69 := ⟨by decide +kernel, rfl⟩
theorem eX2_spendExactly_69 : Dc cX2_spendExactly 69 (.iload_n 3) 1 70 := ⟨by decide +kernel, rfl⟩
theorem eX2_spendExactly_70 : Dc cX2_spendExactly 70 (.iload 5) 2 72 := ⟨by decide +kernel, rfl⟩
theorem eX2_spendExactly_72 : Dc cX2_spendExactly 72 (.iadd) 1 73 := ⟨by decide +kernel, rfl⟩
theorem eX2_spendExactly_73 : Dc cX2_spendExactly 73 (.iaload) 1 74 := ⟨by decide +kernel, rfl⟩
theorem eX2_spendExactly_74 : Dc cX2_spendExactly 74 (.istore 7) 2 76 := ⟨by decide +kernel, rfl⟩
theorem eX2_spendExactly_76 : Dc cX2_spendExactly 76 (.iconst 1) 1 77 := ⟨by decide +kernel, rfl⟩
theorem eX2_spendExactly_77 : Dc cX2_spendExactly 77 (.istore 8) 2 79 := ⟨by decide +kernel, rfl⟩
theorem eX2_spendExactly_79 : Dc cX2_spendExactly 79 (.iload 8) 2 81 := ⟨by decide +kernel, rfl⟩
theorem eX2_spendExactly_81 : Dc cX2_spendExactly 81 (.iload 6) 2 83 := ⟨by decide +kernel, rfl⟩
theorem eX2_spendExactly_83 : Dc cX2_spendExactly 83 (.if_icmp .gt 25) 3 86 := ⟨by decide +kernel, rfl⟩
theorem eX2_spendExactly_86 : Dc cX2_spendExactly 86 (.iload 7) 2 88 := ⟨by decide +kernel, rfl⟩
theorem eX2_spendExactly_88 : Dc cX2_spendExactly 88 (.aload_n 2) 1 89 := ⟨by decide +kernel, rfl⟩
theorem eX2_spendExactly_89 : Dc cX2_spendExactly 89 (.iload_n 3) 1 90 := ⟨by decide +kernel, rfl⟩
theorem eX2_spendExactly_90 : Dc cX2_spendExactly 90 (.iload 5) 2 92 := ⟨by decide +kernel, rfl⟩
theorem eX2_spendExactly_92 : Dc cX2_spendExactly 92 (.iadd) 1 93 := ⟨by decide +kernel, rfl⟩
theorem eX2_spendExactly_93 : Dc cX2_spendExactly 93 (.iload 8) 2 95 := ⟨by decide +kernel, rfl⟩
theorem eX2_spendExactly_95 : Dc cX2_spendExactly 95 (.isub) 1 96 := ⟨by decide +kernel, rfl⟩
theorem eX2_spendExactly_96 : Dc cX2_spendExactly 96 (.iaload) 1 97 := ⟨by decide +kernel, rfl⟩
theorem eX2_spendExactly_97 : Dc cX2_spendExactly 97 (.invokestatic 73) 3 100 := ⟨by decide +kernel, rfl⟩
theorem eX2_spendExactly_100 : Dc cX2_spendExactly 100 (.istore 7) 2 102 := ⟨by decide +kernel, rfl⟩
theorem eX2_spendExactly_102 : Dc cX2_spendExactly 102 (.iinc 8 1) 3 105 := ⟨by decide +kernel, rfl⟩
theorem eX2_spendExactly_105 : Dc cX2_spendExactly 105 (.goto (-26)) 3 108 := ⟨by decide +kernel, rfl⟩
theorem eX2_spendExactly_108 : Dc cX2_spendExactly 108 (.aload_n 2) 1 109 := ⟨by decide +kernel, rfl⟩
theorem eX2_spendExactly_109 : Dc cX2_spendExactly 109 (.iload_n 3) 1 110 := ⟨by decide +kernel, rfl⟩
theorem eX2_spendExactly_110 : Dc cX2_spendExactly 110 (.iload 5) 2 112 := ⟨by decide +kernel, rfl⟩
theorem eX2_spendExactly_112 : Dc cX2_spendExactly 112 (.iadd) 1 113 := ⟨by decide +kernel, rfl⟩
theorem eX2_spendExactly_113 : Dc cX2_spendExactly 113 (.iload 7) 2 115 := ⟨by decide +kernel, rfl⟩
theorem eX2_spendExactly_115 : Dc cX2_spendExactly 115 (.aload_n 0) 1 116 := ⟨by decide +kernel, rfl⟩
theorem eX2_spendExactly_116 : Dc cX2_spendExactly 116 (.getfield 9) 3 119 := ⟨by decide +kernel, rfl⟩
theorem eX2_spendExactly_119 : Dc cX2_spendExactly 119 (.iload 4) 2 121 := ⟨by decide +kernel, rfl⟩
theorem eX2_spendExactly_121 : Dc cX2_spendExactly 121 (.bipush 11) 2 123 := ⟨by decide +kernel, rfl⟩
theorem eX2_spendExactly_123 : Dc cX2_spendExactly 123 (.imul) 1 124 := ⟨by decide +kernel, rfl⟩
theorem eX2_spendExactly_124 : Dc cX2_spendExactly 124 (.iload 5) 2 126 := ⟨by decide +kernel, rfl⟩
theorem eX2_spendExactly_126 : Dc cX2_spendExactly 126 (.iadd) 1 127 := ⟨by decide +kernel, rfl⟩
theorem eX2_spendExactly_127 : Dc cX2_spendExactly 127 (.iaload) 1 128 := ⟨by decide +kernel, rfl⟩
theorem eX2_spendExactly_128 : Dc cX2_spendExactly 128 (.iadd) 1 129 := ⟨by decide +kernel, rfl⟩
theorem eX2_spendExactly_129 : Dc cX2_spendExactly 129 (.iastore) 1 130 := ⟨by decide +kernel, rfl⟩
theorem eX2_spendExactly_130 : Dc cX2_spendExactly 130 (.iinc 5 (-1)) 3 133 := ⟨by decide +kernel, rfl⟩
theorem eX2_spendExactly_133 : Dc cX2_spendExactly 133 (.goto (-83)) 3 136 := ⟨by decide +kernel, rfl⟩
theorem eX2_spendExactly_136 : Dc cX2_spendExactly 136 (.iinc 4 1) 3 139 := ⟨by decide +kernel, rfl⟩
theorem eX2_spendExactly_139 : Dc cX2_spendExactly 139 (.goto (-104)) 3 142 := ⟨by decide +kernel, rfl⟩
theorem eX2_spendExactly_142 : Dc cX2_spendExactly 142 (.return_) 1 143 := ⟨by decide +kernel, rfl⟩
def fX2_spendExactly_19_L3 (k : SS → Option (SS)) (a1 : Int32) (a3 : Int32) : Nat → Int32 → SS → Option (SS)
  | 0, _, _ => none
  | n + 1, a4, c => if a1 < a4 then k c else jn (fun (x2 : Int32) => ckb 70 (a3 + a4) (fX2_spendExactly_19_L3 k a1 a3 n (a4 + (1 : Int32)) (sA c 13 ((a3 + a4)).toNatClampNeg x2))) (fun j25 => if a4 = (0 : Int32) then j25 (0 : Int32) else j25 (-1000000 : Int32))
def fX2_spendExactly_19_L79 (k : Int32 → Option (SS)) (c : SS) (a1 : Int32) (a3 : Int32) (a4 : Int32) (a5 : Int32) (a6 : Int32) : Nat → Int32 → Int32 → Option (SS)
  | 0, _, _ => none
  | n + 1, a7, a8 => if a6 < a8 then k a7 else ald 70 (c.2 13) ((a3 + a5) - a8) (fun v10 => fX2_spendExactly_19_L79 k c a1 a3 a4 a5 a6 n (mmax a7 v10) (a8 + (1 : Int32)))
def fX2_spendExactly_19_L50 (k : SS → Option (SS)) (a1 : Int32) (a3 : Int32) (a4 : Int32) : Nat → Int32 → SS → Option (SS)
  | 0, _, _ => none
  | n + 1, a5, c => if a5 < (0 : Int32) then k c else ald 70 (c.2 13) (a3 + a5) (fun v8 => fX2_spendExactly_19_L79 (fun (x11 : Int32) => ald 66 (c.2 9) ((a4 * (11 : Int32)) + a5) (fun v12 => ckb 70 (a3 + a5) (fX2_spendExactly_19_L50 k a1 a3 a4 n (a5 + (-1 : Int32)) (sA c 13 ((a3 + a5)).toNatClampNeg (x11 + v12))))) c a1 a3 a4 a5 (fX5_mayHold c a4 a5) fu v8 (1 : Int32))
def fX2_spendExactly_19_L35  (a1 : Int32) (a3 : Int32) : Nat → Int32 → SS → Option (SS)
  | 0, _, _ => none
  | n + 1, a4, c => if (c.1 1) ≤ a4 then some c else fX2_spendExactly_19_L50 (fun (c14 : SS) => fX2_spendExactly_19_L35 a1 a3 n (a4 + (1 : Int32)) c14) a1 a3 a4 fu a1 c
def fX2_spendExactly_19 (c : SS) (p1 : Int32) (p3 : Int32) : Option (SS) := fX2_spendExactly_19_L3 (fun (c5 : SS) => fX2_spendExactly_19_L35 p1 p3 fu (0 : Int32) c5) p1 p3 fu (0 : Int32) c
set_option maxRecDepth 20000 in
theorem ctX2_spendExactly_19_L3 (l : Launch) (G : tg_G) (A : Nat → Nat) (k : SS → Option (SS)) (a1 : Int32) (a3 : Int32) {z : SS} (hk : ∀ (ec : SS), k ec = some z → V l G (tg_Zm G (fun v w1 => v = none ∧ w1 = wC G A z) 0 0) tg_E0 (tg_R 2 43) "TramGod$Planner" "spendExactly" cX2_spendExactly 9 none 32 [(0, .ref (A 13)), (1, .int a1), (2, .ref (A 19)), (3, .int a3)] [] (wC G A ec) 0 0) : ∀ (n : Nat) (a4 : Int32) (c : SS), fX2_spendExactly_19_L3 k a1 a3 n a4 c = some z → V l G (tg_Zm G (fun v w1 => v = none ∧ w1 = wC G A z) 0 0) tg_E0 (tg_R 2 43) "TramGod$Planner" "spendExactly" cX2_spendExactly 9 none 3 [(0, .ref (A 13)), (1, .int a1), (2, .ref (A 19)), (3, .int a3), (4, .int a4)] [] (wC G A c) 0 0 := by
  intro n
  induction n with
  | zero => intro a4 c h; exact absurd h (by simp [fX2_spendExactly_19_L3])
  | succ n ih =>
    intro a4 c h
    unfold fX2_spendExactly_19_L3 at h
    refine V_iload eX2_spendExactly_3 4 rfl ?_
    refine V_iload_n eX2_spendExactly_5 1 rfl ?_
    refine V_icmp_gt (tgt := 32) eX2_spendExactly_6 rfl (fun hb1 => ?_) (fun hb1 => ?_)
    · replace h := (if_pos hb1).symm.trans h
      refine V_lv (lv' := [(0, .ref (A 13)), (1, .int a1), (2, .ref (A 19)), (3, .int a3)]) [0, 1, 2, 3] rfl ?_
      exact hk c h
    · replace h := (if_neg hb1).symm.trans h
      refine V_aload_n eX2_spendExactly_9 2 rfl ?_
      refine V_iload_n eX2_spendExactly_10 3 rfl ?_
      refine V_iload eX2_spendExactly_11 4 rfl ?_
      refine V_iadd eX2_spendExactly_13 ?_
      refine V_iload eX2_spendExactly_14 4 rfl ?_
      refine jn_elim h (fun j => ∀ (x2 : Int32), j x2 = some z → V l G (tg_Zm G (fun v w1 => v = none ∧ w1 = wC G A z) 0 0) tg_E0 (tg_R 2 43) "TramGod$Planner" "spendExactly" cX2_spendExactly 9 none 25 [(0, .ref (A 13)), (1, .int a1), (2, .ref (A 19)), (3, .int a3), (4, .int a4)] [.int x2, .int (a3 + a4), .ref (A 19)] (wC G A c) 0 0) ?_ (fun j25 hj25 h => ?_)
      · intro x2 h
        obtain ⟨hi3, h⟩ := ckb_some h
        refine V_iast (w' := wC G A (sA c 13 ((a3 + a4)).toNatClampNeg x2)) eX2_spendExactly_25 19 rfl hi3 rfl ?_
        refine V_iinc (v := (a4 + (1 : Int32))) (lv' := [(4, .int (a4 + (1 : Int32))), (0, .ref (A 13)), (1, .int a1), (2, .ref (A 19)), (3, .int a3)]) eX2_spendExactly_26 4 rfl rfl (Nat.le_of_ble_eq_true rfl) rfl ?_
        refine V_goto (tgt := 3) eX2_spendExactly_29 rfl ?_
        refine V_lv (lv' := [(0, .ref (A 13)), (1, .int a1), (2, .ref (A 19)), (3, .int a3), (4, .int (a4 + (1 : Int32)))]) [1, 2, 3, 4, 0] rfl ?_
        exact ih (a4 + (1 : Int32)) (sA c 13 ((a3 + a4)).toNatClampNeg x2) h
      refine V_if_ne (tgt := 23) eX2_spendExactly_16 rfl (fun hb4 => ?_) (fun hb4 => ?_)
      · replace h := (if_neg hb4).symm.trans h
        refine V_ldc eX2_spendExactly_23 tw_465 ?_
        exact hj25 (-1000000 : Int32) h
      · replace h := (if_pos hb4).symm.trans h
        refine V_iconst (v := (0 : Int32)) eX2_spendExactly_19 rfl ?_
        refine V_goto (tgt := 25) eX2_spendExactly_20 rfl ?_
        exact hj25 (0 : Int32) h
set_option maxRecDepth 20000 in
theorem ctX2_spendExactly_19_L79 (l : Launch) (G : tg_G) (A : Nat → Nat) (k : Int32 → Option (SS)) (c : SS) (a1 : Int32) (a3 : Int32) (a4 : Int32) (a5 : Int32) (a6 : Int32) {z : SS} (hk : ∀ (e7 : Int32), k e7 = some z → V l G (tg_Zm G (fun v w1 => v = none ∧ w1 = wC G A z) 0 0) tg_E0 (tg_R 2 43) "TramGod$Planner" "spendExactly" cX2_spendExactly 9 none 108 [(0, .ref (A 13)), (1, .int a1), (2, .ref (A 19)), (3, .int a3), (4, .int a4), (5, .int a5), (7, .int e7)] [] (wC G A c) 0 0) : ∀ (n : Nat) (a7 : Int32) (a8 : Int32), fX2_spendExactly_19_L79 k c a1 a3 a4 a5 a6 n a7 a8 = some z → V l G (tg_Zm G (fun v w1 => v = none ∧ w1 = wC G A z) 0 0) tg_E0 (tg_R 2 43) "TramGod$Planner" "spendExactly" cX2_spendExactly 9 none 79 [(0, .ref (A 13)), (1, .int a1), (2, .ref (A 19)), (3, .int a3), (4, .int a4), (5, .int a5), (6, .int a6), (7, .int a7), (8, .int a8)] [] (wC G A c) 0 0 := by
  intro n
  induction n with
  | zero => intro a7 a8 h; exact absurd h (by simp [fX2_spendExactly_19_L79])
  | succ n ih =>
    intro a7 a8 h
    unfold fX2_spendExactly_19_L79 at h
    refine V_iload eX2_spendExactly_79 8 rfl ?_
    refine V_iload eX2_spendExactly_81 6 rfl ?_
    refine V_icmp_gt (tgt := 108) eX2_spendExactly_83 rfl (fun hb9 => ?_) (fun hb9 => ?_)
    · replace h := (if_pos hb9).symm.trans h
      refine V_lv (lv' := [(0, .ref (A 13)), (1, .int a1), (2, .ref (A 19)), (3, .int a3), (4, .int a4), (5, .int a5), (7, .int a7)]) [0, 1, 2, 3, 4, 5, 7] rfl ?_
      exact hk a7 h
    · replace h := (if_neg hb9).symm.trans h
      refine V_iload eX2_spendExactly_86 7 rfl ?_
      refine V_aload_n eX2_spendExactly_88 2 rfl ?_
      refine V_iload_n eX2_spendExactly_89 3 rfl ?_
      refine V_iload eX2_spendExactly_90 5 rfl ?_
      refine V_iadd eX2_spendExactly_92 ?_
      refine V_iload eX2_spendExactly_93 8 rfl ?_
      refine V_isub eX2_spendExactly_95 ?_
      obtain ⟨v10, hi10, ev10, h⟩ := ald_some h
      refine V_ialdv eX2_spendExactly_96 19 rfl hi10 ev10 ?_
      refine V_mmax (rest := []) eX2_spendExactly_97 tw_489 tw_275 tw_9 tc_276 (Nat.le_of_ble_eq_true rfl) (Nat.le_of_ble_eq_true rfl) ⟨Nat.zero_le _, Nat.zero_le _⟩ ?_
      refine V_istore (lv' := [(7, .int (mmax a7 v10)), (0, .ref (A 13)), (1, .int a1), (2, .ref (A 19)), (3, .int a3), (4, .int a4), (5, .int a5), (6, .int a6), (8, .int a8)]) eX2_spendExactly_100 (Nat.le_of_ble_eq_true rfl) rfl ?_
      refine V_iinc (v := (a8 + (1 : Int32))) (lv' := [(8, .int (a8 + (1 : Int32))), (7, .int (mmax a7 v10)), (0, .ref (A 13)), (1, .int a1), (2, .ref (A 19)), (3, .int a3), (4, .int a4), (5, .int a5), (6, .int a6)]) eX2_spendExactly_102 8 rfl rfl (Nat.le_of_ble_eq_true rfl) rfl ?_
      refine V_goto (tgt := 79) eX2_spendExactly_105 rfl ?_
      refine V_lv (lv' := [(0, .ref (A 13)), (1, .int a1), (2, .ref (A 19)), (3, .int a3), (4, .int a4), (5, .int a5), (6, .int a6), (7, .int (mmax a7 v10)), (8, .int (a8 + (1 : Int32)))]) [2, 3, 4, 5, 6, 7, 8, 1, 0] rfl ?_
      exact ih (mmax a7 v10) (a8 + (1 : Int32)) h
set_option maxRecDepth 20000 in
theorem ctX2_spendExactly_19_L50 (l : Launch) (G : tg_G) (A : Nat → Nat) (k : SS → Option (SS)) (a1 : Int32) (a3 : Int32) (a4 : Int32) {z : SS} (hk : ∀ (ec : SS), k ec = some z → V l G (tg_Zm G (fun v w1 => v = none ∧ w1 = wC G A z) 0 0) tg_E0 (tg_R 2 43) "TramGod$Planner" "spendExactly" cX2_spendExactly 9 none 136 [(0, .ref (A 13)), (1, .int a1), (2, .ref (A 19)), (3, .int a3), (4, .int a4)] [] (wC G A ec) 0 0) : ∀ (n : Nat) (a5 : Int32) (c : SS), fX2_spendExactly_19_L50 k a1 a3 a4 n a5 c = some z → V l G (tg_Zm G (fun v w1 => v = none ∧ w1 = wC G A z) 0 0) tg_E0 (tg_R 2 43) "TramGod$Planner" "spendExactly" cX2_spendExactly 9 none 50 [(0, .ref (A 13)), (1, .int a1), (2, .ref (A 19)), (3, .int a3), (4, .int a4), (5, .int a5)] [] (wC G A c) 0 0 := by
  intro n
  induction n with
  | zero => intro a5 c h; exact absurd h (by simp [fX2_spendExactly_19_L50])
  | succ n ih =>
    intro a5 c h
    unfold fX2_spendExactly_19_L50 at h
    refine V_iload eX2_spendExactly_50 5 rfl ?_
    refine V_if_lt (tgt := 136) eX2_spendExactly_52 rfl (fun hb7 => ?_) (fun hb7 => ?_)
    · replace h := (if_pos hb7).symm.trans h
      refine V_lv (lv' := [(0, .ref (A 13)), (1, .int a1), (2, .ref (A 19)), (3, .int a3), (4, .int a4)]) [0, 1, 2, 3, 4] rfl ?_
      exact hk c h
    · replace h := (if_neg hb7).symm.trans h
      refine V_aload_n eX2_spendExactly_55 0 rfl ?_
      refine V_get (v := .ref (A 3)) eX2_spendExactly_56 inX2 13 rfl rfl 0 (Nat.le_of_ble_eq_true rfl) tw_133 rfl ?_
      refine V_iload eX2_spendExactly_59 4 rfl ?_
      refine V_iload eX2_spendExactly_61 5 rfl ?_
      refine V_callVi (rest := []) eX2_spendExactly_63 (ctX5_mayHold l G A c a4 a5 rfl) tc_438 tw_435 tw_3 tw_436 tw_437 3 rfl rfl hdX5_mayHold rfl ⟨Nat.le_of_ble_eq_true rfl, Nat.le_of_ble_eq_true rfl⟩ rfl (Nat.le_of_ble_eq_true rfl) ⟨Nat.zero_le _, Nat.zero_le _⟩ ?_
      refine V_istore (lv' := [(6, .int (fX5_mayHold c a4 a5)), (0, .ref (A 13)), (1, .int a1), (2, .ref (A 19)), (3, .int a3), (4, .int a4), (5, .int a5)]) eX2_spendExactly_66 (Nat.le_of_ble_eq_true rfl) rfl ?_
      refine V_aload_n eX2_spendExactly_68 3 rfl ?_
      refine V_iload_n eX2_spendExactly_69 4 rfl ?_
      refine V_iload eX2_spendExactly_70 6 rfl ?_
      refine V_iadd eX2_spendExactly_72 ?_
      obtain ⟨v8, hi8, ev8, h⟩ := ald_some h
      refine V_ialdv eX2_spendExactly_73 19 rfl hi8 ev8 ?_
      refine V_istore (lv' := [(7, .int v8), (6, .int (fX5_mayHold c a4 a5)), (0, .ref (A 13)), (1, .int a1), (2, .ref (A 19)), (3, .int a3), (4, .int a4), (5, .int a5)]) eX2_spendExactly_74 (Nat.le_of_ble_eq_true rfl) rfl ?_
      refine V_iconst (v := (1 : Int32)) eX2_spendExactly_76 rfl ?_
      refine V_istore (lv' := [(8, .int (1 : Int32)), (7, .int v8), (6, .int (fX5_mayHold c a4 a5)), (0, .ref (A 13)), (1, .int a1), (2, .ref (A 19)), (3, .int a3), (4, .int a4), (5, .int a5)]) eX2_spendExactly_77 (Nat.le_of_ble_eq_true rfl) rfl ?_
      refine V_lv (lv' := [(0, .ref (A 13)), (1, .int a1), (2, .ref (A 19)), (3, .int a3), (4, .int a4), (5, .int a5), (6, .int (fX5_mayHold c a4 a5)), (7, .int v8), (8, .int (1 : Int32))]) [3, 4, 5, 6, 7, 8, 2, 1, 0] rfl ?_
      refine ctX2_spendExactly_19_L79 l G A _ c a1 a3 a4 a5 (fX5_mayHold c a4 a5) ?_ fu v8 (1 : Int32) h
      · intro x11 h
        refine V_aload_n eX2_spendExactly_108 2 rfl ?_
        refine V_iload_n eX2_spendExactly_109 3 rfl ?_
        refine V_iload eX2_spendExactly_110 5 rfl ?_
        refine V_iadd eX2_spendExactly_112 ?_
        refine V_iload eX2_spendExactly_113 6 rfl ?_
        refine V_aload_n eX2_spendExactly_115 0 rfl ?_
        refine V_get (v := .ref (A 14)) eX2_spendExactly_116 inX2 13 rfl rfl 2 (Nat.le_of_ble_eq_true rfl) tw_135 rfl ?_
        refine V_iload eX2_spendExactly_119 4 rfl ?_
        refine V_bipush (v := (11 : Int32)) eX2_spendExactly_121 rfl ?_
        refine V_imul eX2_spendExactly_123 ?_
        refine V_iload eX2_spendExactly_124 5 rfl ?_
        refine V_iadd eX2_spendExactly_126 ?_
        obtain ⟨v12, hi12, ev12, h⟩ := ald_some h
        refine V_ialdv eX2_spendExactly_127 14 rfl hi12 ev12 ?_
        refine V_iadd eX2_spendExactly_128 ?_
        obtain ⟨hi13, h⟩ := ckb_some h
        refine V_iast (w' := wC G A (sA c 13 ((a3 + a5)).toNatClampNeg (x11 + v12))) eX2_spendExactly_129 19 rfl hi13 rfl ?_
        refine V_iinc (v := (a5 + (-1 : Int32))) (lv' := [(5, .int (a5 + (-1 : Int32))), (0, .ref (A 13)), (1, .int a1), (2, .ref (A 19)), (3, .int a3), (4, .int a4), (7, .int x11)]) eX2_spendExactly_130 5 rfl rfl (Nat.le_of_ble_eq_true rfl) rfl ?_
        refine V_goto (tgt := 50) eX2_spendExactly_133 rfl ?_
        refine V_lv (lv' := [(0, .ref (A 13)), (1, .int a1), (2, .ref (A 19)), (3, .int a3), (4, .int a4), (5, .int (a5 + (-1 : Int32)))]) [1, 2, 3, 4, 5, 0] rfl ?_
        exact ih (a5 + (-1 : Int32)) (sA c 13 ((a3 + a5)).toNatClampNeg (x11 + v12)) h
set_option maxRecDepth 20000 in
theorem ctX2_spendExactly_19_L35 (l : Launch) (G : tg_G) (A : Nat → Nat)  (a1 : Int32) (a3 : Int32) {z : SS}  : ∀ (n : Nat) (a4 : Int32) (c : SS), fX2_spendExactly_19_L35 a1 a3 n a4 c = some z → V l G (tg_Zm G (fun v w1 => v = none ∧ w1 = wC G A z) 0 0) tg_E0 (tg_R 2 43) "TramGod$Planner" "spendExactly" cX2_spendExactly 9 none 35 [(0, .ref (A 13)), (1, .int a1), (2, .ref (A 19)), (3, .int a3), (4, .int a4)] [] (wC G A c) 0 0 := by
  intro n
  induction n with
  | zero => intro a4 c h; exact absurd h (by simp [fX2_spendExactly_19_L35])
  | succ n ih =>
    intro a4 c h
    unfold fX2_spendExactly_19_L35 at h
    refine V_iload eX2_spendExactly_35 4 rfl ?_
    refine V_aload_n eX2_spendExactly_37 0 rfl ?_
    refine V_get (v := .ref (A 3)) eX2_spendExactly_38 inX2 13 rfl rfl 0 (Nat.le_of_ble_eq_true rfl) tw_133 rfl ?_
    refine V_get (v := .int (c.1 1)) eX2_spendExactly_41 inX5 3 rfl rfl 0 (Nat.le_of_ble_eq_true rfl) tw_45 rfl ?_
    refine V_icmp_ge (tgt := 142) eX2_spendExactly_44 rfl (fun hb6 => ?_) (fun hb6 => ?_)
    · replace h := (if_pos hb6).symm.trans h
      obtain rfl := Option.some.inj h
      exact V_vret eX2_spendExactly_142 rfl ⟨rfl, rfl⟩
    · replace h := (if_neg hb6).symm.trans h
      refine V_iload_n eX2_spendExactly_47 1 rfl ?_
      refine V_istore (lv' := [(5, .int a1), (0, .ref (A 13)), (1, .int a1), (2, .ref (A 19)), (3, .int a3), (4, .int a4)]) eX2_spendExactly_48 (Nat.le_of_ble_eq_true rfl) rfl ?_
      refine V_lv (lv' := [(0, .ref (A 13)), (1, .int a1), (2, .ref (A 19)), (3, .int a3), (4, .int a4), (5, .int a1)]) [1, 2, 3, 4, 5, 0] rfl ?_
      refine ctX2_spendExactly_19_L50 l G A _ a1 a3 a4 ?_ fu a1 c h
      · intro c14 h
        refine V_iinc (v := (a4 + (1 : Int32))) (lv' := [(4, .int (a4 + (1 : Int32))), (0, .ref (A 13)), (1, .int a1), (2, .ref (A 19)), (3, .int a3)]) eX2_spendExactly_136 4 rfl rfl (Nat.le_of_ble_eq_true rfl) rfl ?_
        refine V_goto (tgt := 35) eX2_spendExactly_139 rfl ?_
        refine V_lv (lv' := [(0, .ref (A 13)), (1, .int a1), (2, .ref (A 19)), (3, .int a3), (4, .int (a4 + (1 : Int32)))]) [1, 2, 3, 4, 0] rfl ?_
        exact ih (a4 + (1 : Int32)) c14 h
set_option maxRecDepth 20000 in
theorem ctX2_spendExactly_19 (l : Launch) (G : tg_G) (A : Nat → Nat) (c : SS) (p1 : Int32) (p3 : Int32) {z : SS} (h : fX2_spendExactly_19 c p1 p3 = some z) : Mt l G yX2_spendExactly cX2_spendExactly 9 none (tg_R 2 43) [.ref (A 13), .int p1, .ref (A 19), .int p3] (wC G A c) (fun v w1 => v = none ∧ w1 = wC G A z) := by
  refine Mt_of2 (own := "TramGod$Planner") (nm := "spendExactly") rfl rfl rfl (Nat.le_of_ble_eq_true rfl) (lv := [(0, .ref (A 13)), (1, .int p1), (2, .ref (A 19)), (3, .int p3)]) rfl ?_
  unfold fX2_spendExactly_19 at h
  refine V_iconst (v := (0 : Int32)) eX2_spendExactly_0 rfl ?_
  refine V_istore (lv' := [(4, .int (0 : Int32)), (0, .ref (A 13)), (1, .int p1), (2, .ref (A 19)), (3, .int p3)]) eX2_spendExactly_1 (Nat.le_of_ble_eq_true rfl) rfl ?_
  refine V_lv (lv' := [(0, .ref (A 13)), (1, .int p1), (2, .ref (A 19)), (3, .int p3), (4, .int (0 : Int32))]) [1, 2, 3, 4, 0] rfl ?_
  refine ctX2_spendExactly_19_L3 l G A _ p1 p3 ?_ fu (0 : Int32) c h
  · intro c5 h
    refine V_iconst (v := (0 : Int32)) eX2_spendExactly_32 rfl ?_
    refine V_istore (lv' := [(4, .int (0 : Int32)), (0, .ref (A 13)), (1, .int p1), (2, .ref (A 19)), (3, .int p3)]) eX2_spendExactly_33 (Nat.le_of_ble_eq_true rfl) rfl ?_
    refine V_lv (lv' := [(0, .ref (A 13)), (1, .int p1), (2, .ref (A 19)), (3, .int p3), (4, .int (0 : Int32))]) [1, 2, 3, 4, 0] rfl ?_
    refine ctX2_spendExactly_19_L35 l G A p1 p3 fu (0 : Int32) c5 h
