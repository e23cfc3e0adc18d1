theorem hdX7_seen : yX7_seen.cls ≠ "java/lang/invoke/MethodHandle" ∧ yX7_seen.cls ≠ "java/lang/invoke/VarHandle" ∧ (parseMethodDescriptor yX7_seen.desc).map (fun d => d.parameters.length) = some 2 := by decide +kernel
theorem eX7_seen_0 : Dc cX7_seen 0 (.aload_n 0) 1 1 := ⟨by decide +kernel, rfl⟩
theorem eX7_seen_1 : Dc cX7_seen 1 (.iload_n 1) 1 2 := ⟨by decide +kernel, rfl⟩
theorem eX7_seen_2 : Dc cX7_seen 2 (.invokevirtual 126) 3 5 := ⟨by decide +kernel, rfl⟩
theorem eX7_seen_5 : Dc cX7_seen 5 (.ifCond .ne 5) 3 8 := ⟨by decide +kernel, rfl⟩
theorem eX7_seen_8 : Dc cX7_seen 8 (.iconst (-1)) 1 9 := ⟨by decide +kernel, rfl⟩
theorem eX7_seen_9 : Dc cX7_seen 9 (.ireturn) 1 10 := ⟨by decide +kernel, rfl⟩
theorem eX7_seen_10 : Dc cX7_seen 10 (.iload_n 2) 1 11 := ⟨by decide +kernel, rfl⟩
theorem eX7_seen_11 : Dc cX7_seen 11 (.i2l) 1 12 := ⟨by decide +kernel, rfl⟩
theorem eX7_seen_12 : Dc cX7_seen 12 (.lconst 0) 1 13 := ⟨by decide +kernel, rfl⟩
theorem eX7_seen_13 : Dc cX7_seen 13 (.lconst 1) 1 14 := ⟨by decide +kernel, rfl⟩
theorem eX7_seen_14 : Dc cX7_seen 14 (.invokestatic 79) 3 17 := ⟨by decide +kernel, rfl⟩
theorem eX7_seen_17 : Dc cX7_seen 17 (.ifCond .ne 6) 3 20 := ⟨by decide +kernel, rfl⟩
theorem eX7_seen_20 : Dc cX7_seen 20 (.bipush (-2)) 2 22 := ⟨by decide +kernel, rfl⟩
theorem eX7_seen_22 : Dc cX7_seen 22 (.ireturn) 1 23 := ⟨by decide +kernel, rfl⟩
theorem eX7_seen_23 : Dc cX7_seen 23 (.aload_n 0) 1 24 := ⟨by decide +kernel, rfl⟩
theorem eX7_seen_24 : Dc cX7_seen 24 (.getfield 106) 3 27 := ⟨by decide +kernel, rfl⟩
theorem eX7_seen_27 : Dc cX7_seen 27 (.bipush 8) 2 29 := ⟨by decide +kernel, rfl⟩
theorem eX7_seen_29 : Dc cX7_seen 29 (.if_icmp .ne 6) 3 32 := ⟨by decide +kernel, rfl⟩
theorem eX7_seen_32 : Dc cX7_seen 32 (.bipush (-4)) 2 34 := ⟨by decide +kernel, rfl⟩
theorem eX7_seen_34 : Dc cX7_seen 34 (.ireturn) 1 35 := ⟨by decide +kernel, rfl⟩
theorem eX7_seen_35 : Dc cX7_seen 35 (.aload_n 0) 1 36 := ⟨by decide +kernel, rfl⟩
theorem eX7_seen_36 : Dc cX7_seen 36 (.getfield 31) 3 39 := ⟨by decide +kernel, rfl⟩
theorem eX7_seen_39 : Dc cX7_seen 39 (.aload_n 0) 1 40 := ⟨by decide +kernel, rfl⟩
theorem eX7_seen_40 : Dc cX7_seen 40 (.getfield 106) 3 43 := ⟨by decide +kernel, rfl⟩
theorem eX7_seen_43 : Dc cX7_seen 43 (.iload_n 1) 1 44 := ⟨by decide +kernel, rfl⟩
theorem eX7_seen_44 : Dc cX7_seen 44 (.iastore) 1 45 := ⟨by decide +kernel, rfl⟩
theorem eX7_seen_45 : Dc cX7_seen 45 (.aload_n 0) 1 46 := ⟨by decide +kernel, rfl⟩
theorem eX7_seen_46 : Dc cX7_seen 46 (.getfield 34) 3 49 := ⟨by decide +kernel, rfl⟩
theorem eX7_seen_49 : Dc cX7_seen 49 (.aload_n 0) 1 50 := ⟨by decide +kernel, rfl⟩
theorem eX7_seen_50 : Dc cX7_seen 50 (.getfield 106) 3 53 := ⟨by decide +kernel, rfl⟩
theorem eX7_seen_53 : Dc cX7_seen 53 (.iload_n 2) 1 54 := ⟨by decide +kernel, rfl⟩
theorem eX7_seen_54 : Dc cX7_seen 54 (.iastore) 1 55 := ⟨by decide +kernel, rfl⟩
theorem eX7_seen_55 : Dc cX7_seen 55 (.aload_n 0) 1 56 := ⟨by decide +kernel, rfl⟩
theorem eX7_seen_56 : Dc cX7_seen 56 (.dup) 1 57 := ⟨by decide +kernel, rfl⟩
theorem eX7_seen_57 : Dc cX7_seen 57 (.getfield 106) 3 60 := ⟨by decide +kernel, rfl⟩
theorem eX7_seen_60 : Dc cX7_seen 60 (.iconst 1) 1 61 := ⟨by decide +kernel, rfl⟩
theorem eX7_seen_61 : Dc cX7_seen 61 (.iadd) 1 62 := ⟨by decide +kernel, rfl⟩
theorem eX7_seen_62 : Dc cX7_seen 62 (.putfield 106) 3 65 := ⟨by decide +kernel, rfl⟩
theorem eX7_seen_65 : Dc cX7_seen 65 (.aload_n 0) 1 66 := ⟨by decide +kernel, rfl⟩
theorem eX7_seen_66 : Dc cX7_seen 66 (.getfield 106) 3 69 := ⟨by decide +kernel, rfl⟩
theorem eX7_seen_69 : Dc cX7_seen 69 (.ireturn) 1 70 := ⟨by decide +kernel, rfl⟩
def fX7_seen (c : SS) (p1 : Int32) (p2 : Int32) : Option (Int32 × SS) := if (fX7_isThere c p1) = (0 : Int32) then some ((-1 : Int32), c) else if (fX7_in (p2).toInt64 (0 : Int64) (1 : Int64)) = (0 : Int32) then some ((-2 : Int32), c) else if (c.1 14) = (8 : Int32) then some ((-4 : Int32), c) else ckb 8 (c.1 14) (ckb 8 (c.1 14) (some (((c.1 14) + (1 : Int32)), (sF (sA (sA c 12 ((c.1 14)).toNatClampNeg p1) 13 ((c.1 14)).toNatClampNeg p2) 14 ((c.1 14) + (1 : Int32))))))
set_option maxRecDepth 20000 in
theorem ctX7_seen (l : Launch) (G : tg_G) (A : Nat → Nat) (c : SS) (p1 : Int32) (p2 : Int32) {z : Int32 × SS} (h : fX7_seen c p1 p2 = some z) : Mt l G yX7_seen cX7_seen 3 (some .int) (tg_R 2 46) [.ref (A 0), .int p1, .int p2] (wM G A c) (fun v w1 => v = some (.int z.1) ∧ w1 = wM G A z.2) := by
  refine Mt_of2 (own := "TramGodModel") (nm := "seen") rfl rfl rfl (Nat.le_of_ble_eq_true rfl) (lv := [(0, .ref (A 0)), (1, .int p1), (2, .int p2)]) rfl ?_
  unfold fX7_seen at h
  refine V_aload_n eX7_seen_0 0 rfl ?_
  refine V_iload_n eX7_seen_1 1 rfl ?_
  refine V_callVi (rest := []) eX7_seen_2 (ctX7_isThere l G A c p1 rfl) tc_796 tw_793 tw_8 tw_795 ts_22 0 rfl rfl hdX7_isThere rfl ⟨Nat.le_of_ble_eq_true rfl, Nat.le_of_ble_eq_true rfl⟩ rfl (Nat.le_of_ble_eq_true rfl) ⟨Nat.zero_le _, Nat.zero_le _⟩ ?_
  refine V_if_ne (tgt := 10) eX7_seen_5 rfl (fun hb1 => ?_) (fun hb1 => ?_)
  · replace h := (if_neg hb1).symm.trans h
    refine V_iload_n eX7_seen_10 2 rfl ?_
    refine V_i2l eX7_seen_11 ?_
    refine V_lconst (v := (0 : Int64)) eX7_seen_12 rfl ?_
    refine V_lconst (v := (1 : Int64)) eX7_seen_13 rfl ?_
    refine V_callSi (rest := []) eX7_seen_14 (ctX7_in l G _ (p2).toInt64 (0 : Int64) (1 : Int64) rfl) tc_748 tw_746 tw_8 tw_747 hdX7_in rfl ⟨Nat.le_of_ble_eq_true rfl, Nat.le_of_ble_eq_true rfl⟩ rfl (Nat.le_of_ble_eq_true rfl) ⟨Nat.zero_le _, Nat.zero_le _⟩ ?_
    refine V_if_ne (tgt := 23) eX7_seen_17 rfl (fun hb2 => ?_) (fun hb2 => ?_)
    · replace h := (if_neg hb2).symm.trans h
      refine V_aload_n eX7_seen_23 0 rfl ?_
      refine V_get (v := .int (c.1 14)) eX7_seen_24 inX7 0 rfl rfl 14 (Nat.le_of_ble_eq_true rfl) tw_659 rfl ?_
      refine V_bipush (v := (8 : Int32)) eX7_seen_27 rfl ?_
      refine V_icmp_ne (tgt := 35) eX7_seen_29 rfl (fun hb3 => ?_) (fun hb3 => ?_)
      · replace h := (if_neg hb3).symm.trans h
        refine V_aload_n eX7_seen_35 0 rfl ?_
        refine V_get (v := .ref (A 8)) eX7_seen_36 inX7 0 rfl rfl 12 (Nat.le_of_ble_eq_true rfl) tw_657 rfl ?_
        refine V_aload_n eX7_seen_39 0 rfl ?_
        refine V_get (v := .int (c.1 14)) eX7_seen_40 inX7 0 rfl rfl 14 (Nat.le_of_ble_eq_true rfl) tw_659 rfl ?_
        refine V_iload_n eX7_seen_43 1 rfl ?_
        obtain ⟨hi4, h⟩ := ckb_some h
        refine V_iast (w' := wM G A (sA c 12 ((c.1 14)).toNatClampNeg p1)) eX7_seen_44 8 rfl hi4 rfl ?_
        refine V_aload_n eX7_seen_45 0 rfl ?_
        refine V_get (v := .ref (A 9)) eX7_seen_46 inX7 0 rfl rfl 13 (Nat.le_of_ble_eq_true rfl) tw_658 rfl ?_
        refine V_aload_n eX7_seen_49 0 rfl ?_
        refine V_get (v := .int (c.1 14)) eX7_seen_50 inX7 0 rfl rfl 14 (Nat.le_of_ble_eq_true rfl) tw_659 rfl ?_
        refine V_iload_n eX7_seen_53 2 rfl ?_
        obtain ⟨hi5, h⟩ := ckb_some h
        refine V_iast (w' := wM G A (sA (sA c 12 ((c.1 14)).toNatClampNeg p1) 13 ((c.1 14)).toNatClampNeg p2)) eX7_seen_54 9 rfl hi5 rfl ?_
        refine V_aload_n eX7_seen_55 0 rfl ?_
        refine V_dup eX7_seen_56 rfl ?_
        refine V_get (v := .int (c.1 14)) eX7_seen_57 inX7 0 rfl rfl 14 (Nat.le_of_ble_eq_true rfl) tw_659 rfl ?_
        refine V_iconst (v := (1 : Int32)) eX7_seen_60 rfl ?_
        refine V_iadd eX7_seen_61 ?_
        refine V_put (w' := wM G A (sF (sA (sA c 12 ((c.1 14)).toNatClampNeg p1) 13 ((c.1 14)).toNatClampNeg p2) 14 ((c.1 14) + (1 : Int32)))) eX7_seen_62 inX7 tyX7 tyX7_ok nmX7 0 rfl rfl 14 (Nat.le_of_ble_eq_true rfl) tw_659 rfl rfl rfl rfl (Nat.le_of_ble_eq_true rfl) rfl ?_
        refine V_aload_n eX7_seen_65 0 rfl ?_
        refine V_get (v := .int ((c.1 14) + (1 : Int32))) eX7_seen_66 inX7 0 rfl rfl 14 (Nat.le_of_ble_eq_true rfl) tw_659 rfl ?_
        obtain rfl := Option.some.inj h
        exact V_ret eX7_seen_69 rfl ⟨rfl, rfl⟩
      · replace h := (if_pos hb3).symm.trans h
        refine V_bipush (v := (-4 : Int32)) eX7_seen_32 rfl ?_
        obtain rfl := Option.some.inj h
        exact V_ret eX7_seen_34 rfl ⟨rfl, rfl⟩
    · replace h := (if_pos hb2).symm.trans h
      refine V_bipush (v := (-2 : Int32)) eX7_seen_20 rfl ?_
      obtain rfl := Option.some.inj h
      exact V_ret eX7_seen_22 rfl ⟨rfl, rfl⟩
  · replace h := (if_pos hb1).symm.trans h
    refine V_iconst (v := (-1 : Int32)) eX7_seen_8 rfl ?_
    obtain rfl := Option.some.inj h
    exact V_ret eX7_seen_9 rfl ⟨rfl, rfl⟩
theorem hdX7_forget : yX7_forget.cls ≠ "java/lang/invoke/MethodHandle" ∧ yX7_forget.cls ≠ "java/lang/invoke/VarHandle" ∧ (parseMethodDescriptor yX7_forget.desc).map (fun d => d.parameters.length) = some 0 := by decide +kernel
theorem eX7_forget_0 : Dc cX7_forget 0 (.aload_n 0) 1 1 := ⟨by decide +kernel, rfl⟩
theorem eX7_forget_1 : Dc cX7_forget 1 (.getfield 106) 3 4 := ⟨by decide +kernel, rfl⟩
theorem eX7_forget_4 : Dc cX7_forget 4 (.istore_n 1) 1 5 := ⟨by decide +kernel, rfl⟩
theorem eX7_forget_5 : Dc cX7_forget 5 (.aload_n 0) 1 6 := ⟨by decide +kernel, rfl⟩
theorem eX7_forget_6 : Dc cX7_forget 6 (.iconst 0) 1 7 := ⟨by decide +kernel, rfl⟩
theorem eX7_forget_7 : Dc cX7_forget 7 (.putfield 106) 3 10 := ⟨by decide +kernel, rfl⟩
theorem eX7_forget_10 : Dc cX7_forget 10 (.iload_n 1) 1 11 := ⟨by decide +kernel, rfl⟩
theorem eX7_forget_11 : Dc cX7_forget 11 (.ireturn) 1 12 := ⟨by decide +kernel, rfl⟩
def fX7_forget (c : SS)  : Int32 × SS := ((c.1 14), (sF c 14 (0 : Int32)))
set_option maxRecDepth 20000 in
theorem ctX7_forget (l : Launch) (G : tg_G) (A : Nat → Nat) (c : SS)  {z : Int32 × SS} (h : fX7_forget c  = z) : Mt l G yX7_forget cX7_forget 2 (some .int) (tg_R 0 0) [.ref (A 0)] (wM G A c) (fun v w1 => v = some (.int z.1) ∧ w1 = wM G A z.2) := by
  refine Mt_of2 (own := "TramGodModel") (nm := "forget") rfl rfl rfl (Nat.le_of_ble_eq_true rfl) (lv := [(0, .ref (A 0))]) rfl ?_
  unfold fX7_forget at h
  refine V_aload_n eX7_forget_0 0 rfl ?_
  refine V_get (v := .int (c.1 14)) eX7_forget_1 inX7 0 rfl rfl 14 (Nat.le_of_ble_eq_true rfl) tw_659 rfl ?_
  refine V_istore_n (lv' := [(1, .int (c.1 14)), (0, .ref (A 0))]) eX7_forget_4 (Nat.le_of_ble_eq_true rfl) rfl ?_
  refine V_aload_n eX7_forget_5 1 rfl ?_
  refine V_iconst (v := (0 : Int32)) eX7_forget_6 rfl ?_
  refine V_put (w' := wM G A (sF c 14 (0 : Int32))) eX7_forget_7 inX7 tyX7 tyX7_ok nmX7 0 rfl rfl 14 (Nat.le_of_ble_eq_true rfl) tw_659 rfl rfl rfl rfl (Nat.le_of_ble_eq_true rfl) rfl ?_
  refine V_iload_n eX7_forget_10 0 rfl ?_
  subst h
  exact V_ret eX7_forget_11 rfl ⟨rfl, rfl⟩
theorem hdX7_isSeenSo : yX7_isSeenSo.cls ≠ "java/lang/invoke/MethodHandle" ∧ yX7_isSeenSo.cls ≠ "java/lang/invoke/VarHandle" ∧ (parseMethodDescriptor yX7_isSeenSo.desc).map (fun d => d.parameters.length) = some 1 := by decide +kernel
theorem eX7_isSeenSo_0 : Dc cX7_isSeenSo 0 (.iconst 1) 1 1 := ⟨by decide +kernel, rfl⟩
theorem eX7_isSeenSo_1 : Dc cX7_isSeenSo 1 (.istore_n 2) 1 2 := ⟨by decide +kernel, rfl⟩
theorem eX7_isSeenSo_2 : Dc cX7_isSeenSo 2 (.iconst 0) 1 3 := ⟨by decide +kernel, rfl⟩
theorem eX7_isSeenSo_3 : Dc cX7_isSeenSo 3 (.istore_n 3) 1 4 := ⟨by decide +kernel, rfl⟩
theorem eX7_isSeenSo_4 : Dc cX7_isSeenSo 4 (.iload_n 3) 1 5 := ⟨by decide +kernel, rfl⟩
theorem eX7_isSeenSo_5 : Dc cX7_isSeenSo 5 (.aload_n 0) 1 6 := ⟨by decide +kernel, rfl⟩
theorem eX7_isSeenSo_6 : Dc cX7_isSeenSo 6 (.getfield 106) 3 9 := ⟨by decide +kernel, rfl⟩
theorem eX7_isSeenSo_9 : Dc cX7_isSeenSo 9 (.if_icmp .ge 38) 3 12 := ⟨by decide +kernel, rfl⟩
theorem eX7_isSeenSo_12 : Dc cX7_isSeenSo 12 (.iload_n 2) 1 13 := ⟨by decide +kernel, rfl⟩
theorem eX7_isSeenSo_13 : Dc cX7_isSeenSo 13 (.ifCond .eq 26) 3 16 := ⟨by decide +kernel, rfl⟩
theorem eX7_isSeenSo_16 : Dc cX7_isSeenSo 16 (.iload_n 1) 1 17 := ⟨by decide +kernel, rfl⟩
theorem eX7_isSeenSo_17 : Dc cX7_isSeenSo 17 (.aload_n 0) 1 18 := ⟨by decide +kernel, rfl⟩
theorem eX7_isSeenSo_18 : Dc cX7_isSeenSo 18 (.getfield 31) 3 21 := ⟨by decide +kernel, rfl⟩
theorem eX7_isSeenSo_21 : Dc cX7_isSeenSo 21 (.iload_n 3) 1 22 := ⟨by decide +kernel, rfl⟩
theorem eX7_isSeenSo_22 : Dc cX7_isSeenSo 22 (.iaload) 1 23 := ⟨by decide +kernel, rfl⟩
theorem eX7_isSeenSo_23 : Dc cX7_isSeenSo 23 (.ishr) 1 24 := ⟨by decide +kernel, rfl⟩
theorem eX7_isSeenSo_24 : Dc cX7_isSeenSo 24 (.iconst 1) 1 25 := ⟨by decide +kernel, rfl⟩
theorem eX7_isSeenSo_25 : Dc cX7_isSeenSo 25 (.iand) 1 26 := ⟨by decide +kernel, rfl⟩
theorem eX7_isSeenSo_26 : Dc cX7_isSeenSo 26 (.aload_n 0) 1 27 := ⟨by decide +kernel, rfl⟩
theorem eX7_isSeenSo_27 : Dc cX7_isSeenSo 27 (.getfield 34) 3 30 := ⟨by decide +kernel, rfl⟩
theorem eX7_isSeenSo_30 : Dc cX7_isSeenSo 30 (.iload_n 3) 1 31 := ⟨by decide +kernel, rfl⟩
theorem eX7_isSeenSo_31 : Dc cX7_isSeenSo 31 (.iaload) 1 32 := ⟨by decide +kernel, rfl⟩
theorem eX7_isSeenSo_32 : Dc cX7_isSeenSo 32 (.if_icmp .ne 7) 3 35 := ⟨by decide +kernel, rfl⟩
theorem eX7_isSeenSo_35 : Dc cX7_isSeenSo 35 (.iconst 1) 1 36 := ⟨by decide +kernel, rfl⟩
theorem eX7_isSeenSo_36 : Dc cX7_isSeenSo 36 (.goto 4) 3 39 := ⟨by decide +kernel, rfl⟩
theorem eX7_isSeenSo_39 : Dc cX7_isSeenSo 39 (.iconst 0) 1 40 := ⟨by decide +kernel, rfl⟩
theorem eX7_isSeenSo_40 : Dc cX7_isSeenSo 40 (.istore_n 2) 1 41 := ⟨by decide +kernel, rfl⟩
theorem eX7_isSeenSo_41 : Dc cX7_isSeenSo 41 (.iinc 3 1) 3 44 := ⟨by decide +kernel, rfl⟩
theorem eX7_isSeenSo_44 : Dc cX7_isSeenSo 44 (.goto (-40)) 3 47 := ⟨by decide +kernel, rfl⟩
theorem eX7_isSeenSo_47 : Dc cX7_isSeenSo 47 (.iload_n 2) 1 48 := ⟨by decide +kernel, rfl⟩
theorem eX7_isSeenSo_48 : Dc cX7_isSeenSo 48 (.ireturn) 1 49 := ⟨by decide +kernel, rfl⟩
def fX7_isSeenSo_L4  (c : SS) (a1 : Int32) : Nat → Int32 → Int32 → Option (Int32)
  | 0, _, _ => none
  | n + 1, a2, a3 => if (c.1 14) ≤ a3 then gz a2 (some a2) else jn (fun (x3 : Int32) => fX7_isSeenSo_L4 c a1 n x3 (a3 + (1 : Int32))) (fun j40 => jn (fun (_ : Unit) => j40 (0 : Int32)) (fun j39 => if a2 = (0 : Int32) then j39 () else ald 8 (c.2 12) a3 (fun v5 => ald 8 (c.2 13) a3 (fun v6 => if ((a1 >>> (v5 &&& 31)) &&& (1 : Int32)) = v6 then j40 (1 : Int32) else j39 ()))))
def fX7_isSeenSo (c : SS) (p1 : Int32) : Option (Int32) := fX7_isSeenSo_L4 c p1 fu (1 : Int32) (0 : Int32)
set_option maxRecDepth 20000 in
theorem ctX7_isSeenSo_L4 (l : Launch) (G : tg_G) (A : Nat → Nat)  (c : SS) (a1 : Int32) {z : Int32}  : ∀ (n : Nat) (a2 : Int32) (a3 : Int32), fX7_isSeenSo_L4 c a1 n a2 a3 = some z → V l G (tg_Zm G (fun v w1 => v = some (.int z) ∧ w1 = wM G A c) 0 0) tg_E0 (tg_R 0 0) "TramGodModel" "isSeenSo" cX7_isSeenSo 4 (some .boolean) 4 [(0, .ref (A 0)), (1, .int a1), (2, .int a2), (3, .int a3)] [] (wM G A c) 0 0 := by
  intro n
  induction n with
  | zero => intro a2 a3 h; exact absurd h (by simp [fX7_isSeenSo_L4])
  | succ n ih =>
    intro a2 a3 h
    unfold fX7_isSeenSo_L4 at h
    refine V_iload_n eX7_isSeenSo_4 3 rfl ?_
    refine V_aload_n eX7_isSeenSo_5 0 rfl ?_
    refine V_get (v := .int (c.1 14)) eX7_isSeenSo_6 inX7 0 rfl rfl 14 (Nat.le_of_ble_eq_true rfl) tw_659 rfl ?_
    refine V_icmp_ge (tgt := 47) eX7_isSeenSo_9 rfl (fun hb1 => ?_) (fun hb1 => ?_)
    · replace h := (if_pos hb1).symm.trans h
      refine V_iload_n eX7_isSeenSo_47 2 rfl ?_
      obtain ⟨hz2, h⟩ := gz_some h
      obtain rfl := Option.some.inj h
      exact V_zret eX7_isSeenSo_48 rfl hz2 ⟨rfl, rfl⟩
    · replace h := (if_neg hb1).symm.trans h
      refine V_iload_n eX7_isSeenSo_12 2 rfl ?_
      refine jn_elim h (fun j => ∀ (x3 : Int32), j x3 = some z → V l G (tg_Zm G (fun v w1 => v = some (.int z) ∧ w1 = wM G A c) 0 0) tg_E0 (tg_R 0 0) "TramGodModel" "isSeenSo" cX7_isSeenSo 4 (some .boolean) 40 [(0, .ref (A 0)), (1, .int a1), (3, .int a3)] [.int x3] (wM G A c) 0 0) ?_ (fun j40 hj40 h => ?_)
      · intro x3 h
        refine V_istore_n (lv' := [(2, .int x3), (0, .ref (A 0)), (1, .int a1), (3, .int a3)]) eX7_isSeenSo_40 (Nat.le_of_ble_eq_true rfl) rfl ?_
        refine V_iinc (v := (a3 + (1 : Int32))) (lv' := [(3, .int (a3 + (1 : Int32))), (2, .int x3), (0, .ref (A 0)), (1, .int a1)]) eX7_isSeenSo_41 3 rfl rfl (Nat.le_of_ble_eq_true rfl) rfl ?_
        refine V_goto (tgt := 4) eX7_isSeenSo_44 rfl ?_
        refine V_lv (lv' := [(0, .ref (A 0)), (1, .int a1), (2, .int x3), (3, .int (a3 + (1 : Int32)))]) [2, 3, 1, 0] rfl ?_
        exact ih x3 (a3 + (1 : Int32)) h
      refine jn_elim h (fun j => j () = some z → V l G (tg_Zm G (fun v w1 => v = some (.int z) ∧ w1 = wM G A c) 0 0) tg_E0 (tg_R 0 0) "TramGodModel" "isSeenSo" cX7_isSeenSo 4 (some .boolean) 39 [(0, .ref (A 0)), (1, .int a1), (3, .int a3)] [] (wM G A c) 0 0) ?_ (fun j39 hj39 h => ?_)
      · intro h
        refine V_iconst (v := (0 : Int32)) eX7_isSeenSo_39 rfl ?_
        exact hj40 (0 : Int32) h
      refine V_if_eq (tgt := 39) eX7_isSeenSo_13 rfl (fun hb4 => ?_) (fun hb4 => ?_)
      · replace h := (if_pos hb4).symm.trans h
        refine V_lv (lv' := [(0, .ref (A 0)), (1, .int a1), (3, .int a3)]) [0, 1, 3] rfl ?_
        exact hj39 h
      · replace h := (if_neg hb4).symm.trans h
        refine V_iload_n eX7_isSeenSo_16 1 rfl ?_
        refine V_aload_n eX7_isSeenSo_17 0 rfl ?_
        refine V_get (v := .ref (A 8)) eX7_isSeenSo_18 inX7 0 rfl rfl 12 (Nat.le_of_ble_eq_true rfl) tw_657 rfl ?_
        refine V_iload_n eX7_isSeenSo_21 3 rfl ?_
        obtain ⟨v5, hi5, ev5, h⟩ := ald_some h
        refine V_ialdv eX7_isSeenSo_22 8 rfl hi5 ev5 ?_
        refine V_ishr eX7_isSeenSo_23 ?_
        refine V_iconst (v := (1 : Int32)) eX7_isSeenSo_24 rfl ?_
        refine V_iand eX7_isSeenSo_25 ?_
        refine V_aload_n eX7_isSeenSo_26 0 rfl ?_
        refine V_get (v := .ref (A 9)) eX7_isSeenSo_27 inX7 0 rfl rfl 13 (Nat.le_of_ble_eq_true rfl) tw_658 rfl ?_
        refine V_iload_n eX7_isSeenSo_30 3 rfl ?_
        obtain ⟨v6, hi6, ev6, h⟩ := ald_some h
        refine V_ialdv eX7_isSeenSo_31 9 rfl hi6 ev6 ?_
        refine V_icmp_ne (tgt := 39) eX7_isSeenSo_32 rfl (fun hb7 => ?_) (fun hb7 => ?_)
        · replace h := (if_neg hb7).symm.trans h
          refine V_lv (lv' := [(0, .ref (A 0)), (1, .int a1), (3, .int a3)]) [0, 1, 3] rfl ?_
          exact hj39 h
        · replace h := (if_pos hb7).symm.trans h
          refine V_iconst (v := (1 : Int32)) eX7_isSeenSo_35 rfl ?_
          refine V_goto (tgt := 40) eX7_isSeenSo_36 rfl ?_
          refine V_lv (lv' := [(0, .ref (A 0)), (1, .int a1), (3, .int a3)]) [0, 1, 3] rfl ?_
          exact hj40 (1 : Int32) h
set_option maxRecDepth 20000 in
theorem ctX7_isSeenSo (l : Launch) (G : tg_G) (A : Nat → Nat) (c : SS) (p1 : Int32) {z : Int32} (h : fX7_isSeenSo c p1 = some z) : Mt l G yX7_isSeenSo cX7_isSeenSo 4 (some .boolean) (tg_R 0 0) [.ref (A 0), .int p1] (wM G A c) (fun v w1 => v = some (.int z) ∧ w1 = wM G A c) := by
  refine Mt_of2 (own := "TramGodModel") (nm := "isSeenSo") rfl rfl rfl (Nat.le_of_ble_eq_true rfl) (lv := [(0, .ref (A 0)), (1, .int p1)]) rfl ?_
  unfold fX7_isSeenSo at h
  refine V_iconst (v := (1 : Int32)) eX7_isSeenSo_0 rfl ?_
  refine V_istore_n (lv' := [(2, .int (1 : Int32)), (0, .ref (A 0)), (1, .int p1)]) eX7_isSeenSo_1 (Nat.le_of_ble_eq_true rfl) rfl ?_
  refine V_iconst (v := (0 : Int32)) eX7_isSeenSo_2 rfl ?_
  refine V_istore_n (lv' := [(3, .int (0 : Int32)), (2, .int (1 : Int32)), (0, .ref (A 0)), (1, .int p1)]) eX7_isSeenSo_3 (Nat.le_of_ble_eq_true rfl) rfl ?_
  refine V_lv (lv' := [(0, .ref (A 0)), (1, .int p1), (2, .int (1 : Int32)), (3, .int (0 : Int32))]) [2, 3, 1, 0] rfl ?_
  refine ctX7_isSeenSo_L4 l G A c p1 fu (1 : Int32) (0 : Int32) h
theorem hdX7_held : yX7_held.cls ≠ "java/lang/invoke/MethodHandle" ∧ yX7_held.cls ≠ "java/lang/invoke/VarHandle" ∧ (parseMethodDescriptor yX7_held.desc).map (fun d => d.parameters.length) = some 2 := by decide +kernel
theorem eX7_held_0 : Dc cX7_held 0 (.iload_n 1) 1 1 := ⟨by decide +kernel, rfl⟩
theorem eX7_held_1 : Dc cX7_held 1 (.iconst (-1)) 1 2 := ⟨by decide +kernel, rfl⟩
theorem eX7_held_2 : Dc cX7_held 2 (.if_icmp .eq 13) 3 5 := ⟨by decide +kernel, rfl⟩
theorem eX7_held_5 : Dc cX7_held 5 (.aload_n 0) 1 6 := ⟨by decide +kernel, rfl⟩
theorem eX7_held_6 : Dc cX7_held 6 (.iload_n 1) 1 7 := ⟨by decide +kernel, rfl⟩
theorem eX7_held_7 : Dc cX7_held 7 (.invokevirtual 109) 3 10 := ⟨by decide +kernel, rfl⟩
theorem eX7_held_10 : Dc cX7_held 10 (.ifCond .ne 5) 3 13 := ⟨by decide +kernel, rfl⟩
theorem eX7_held_13 : Dc cX7_held 13 (.iconst (-1)) 1 14 := ⟨by decide +kernel, rfl⟩
theorem eX7_held_14 : Dc cX7_held 14 (.ireturn) 1 15 := ⟨by decide +kernel, rfl⟩
theorem eX7_held_15 : Dc cX7_held 15 (.iload_n 2) 1 16 := ⟨by decide +kernel, rfl⟩
theorem eX7_held_16 : Dc cX7_held 16 (.i2l) 1 17 := ⟨by decide +kernel, rfl⟩
theorem eX7_held_17 : Dc cX7_held 17 (.lconst 0) 1 18 := ⟨by decide +kernel, rfl⟩
theorem eX7_held_18 : Dc cX7_held 18 (.lconst 1) 1 19 := ⟨by decide +kernel, rfl⟩
theorem eX7_held_19 : Dc cX7_held 19 (.invokestatic 79) 3 22 := ⟨by decide +kernel, rfl⟩
theorem eX7_held_22 : Dc cX7_held 22 (.ifCond .ne 6) 3 25 := ⟨by decide +kernel, rfl⟩
theorem eX7_held_25 : Dc cX7_held 25 (.bipush (-2)) 2 27 := ⟨by decide +kernel, rfl⟩
theorem eX7_held_27 : Dc cX7_held 27 (.ireturn) 1 28 := ⟨by decide +kernel, rfl⟩
theorem eX7_held_28 : Dc cX7_held 28 (.aload_n 0) 1 29 := ⟨by decide +kernel, rfl⟩
theorem eX7_held_29 : Dc cX7_held 29 (.invokevirtual 170) 3 32 := ⟨by decide +kernel, rfl⟩
theorem eX7_held_32 : Dc cX7_held 32 (.iconst 0) 1 33 := ⟨by decide +kernel, rfl⟩
theorem eX7_held_33 : Dc cX7_held 33 (.istore_n 3) 1 34 := ⟨by decide +kernel, rfl⟩
theorem eX7_held_34 : Dc cX7_held 34 (.ldc 225) 2 36 := ⟨by decide +kernel, rfl⟩
theorem eX7_held_36 : Dc cX7_held 36 (.istore 4) 2 38 := ⟨by decide +kernel, rfl⟩
theorem eX7_held_38 : Dc cX7_held 38 (.ldc 225) 2 40 := ⟨by decide +kernel, rfl⟩
theorem eX7_held_40 : Dc cX7_held 40 (.istore 5) 2 42 := ⟨by decide +kernel, rfl⟩
theorem eX7_held_42 : Dc cX7_held 42 (.bipush (-6)) 2 44 := ⟨by decide +kernel, rfl⟩
theorem eX7_held_44 : Dc cX7_held 44 (.istore 6) 2 46 := ⟨by decide +kernel, rfl⟩
theorem eX7_held_46 : Dc cX7_held 46 (.iload_n 1) 1 47 := ⟨by decide +kernel, rfl⟩
theorem eX7_held_47 : Dc cX7_held 47 (.ifCond .ge 7) 3 50 := ⟨by decide +kernel, rfl⟩
theorem eX7_held_50 : Dc cX7_held 50 (.iconst 0) 1 51 := ⟨by decide +kernel, rfl⟩
theorem eX7_held_51 : Dc cX7_held 51 (.goto 4) 3 54 := ⟨by decide +kernel, rfl⟩
theorem eX7_held_54 : Dc cX7_held 54 (.iload_n 1) 1 55 := ⟨by decide +kernel, rfl⟩
theorem eX7_held_55 : Dc cX7_held 55 (.istore 7) 2 57 := ⟨by decide +kernel, rfl⟩
theorem eX7_held_57 : Dc cX7_held 57 (.iconst 1) 1 58 := ⟨by decide +kernel, rfl⟩
theorem eX7_held_58 : Dc cX7_held 58 (.istore 8) 2 60 := ⟨by decide +kernel, rfl⟩
theorem eX7_held_60 : Dc cX7_held 60 (.iload 8) 2 62 := ⟨by decide +kernel, rfl⟩
theorem eX7_held_62 : Dc cX7_held 62 (.ifCond .eq 102) 3 65 := ⟨by decide +kernel, rfl⟩
theorem eX7_held_65 : Dc cX7_held 65 (.aload_n 0) 1 66 := ⟨by decide +kernel, rfl⟩
theorem eX7_held_66 : Dc cX7_held 66 (.aload_n 0) 1 67 := ⟨by decide +kernel, rfl⟩
theorem eX7_held_67 : Dc cX7_held 67 (.invokevirtual 157) 3 70 := ⟨by decide +kernel, rfl⟩
theorem eX7_held_70 : Dc cX7_held 70 (.invokevirtual 226) 3 73 := ⟨by decide +kernel, rfl⟩
theorem eX7_held_73 : Dc cX7_held 73 (.ifCond .eq 78) 3 76 := ⟨by decide +kernel, rfl⟩
theorem eX7_held_76 : Dc cX7_held 76 (.iinc 3 1) 3 79 := ⟨by decide +kernel, rfl⟩
theorem eX7_held_79 : Dc cX7_held 79 (.aload_n 0) 1 80 := ⟨by decide +kernel, rfl⟩
theorem eX7_held_80 : Dc cX7_held 80 (.invokevirtual 167) 3 83 := ⟨by decide +kernel, rfl⟩
theorem eX7_held_83 : Dc cX7_held 83 (.iload 4) 2 85 := ⟨by decide +kernel, rfl⟩
theorem eX7_held_85 : Dc cX7_held 85 (.if_icmp .ge 10) 3 88 := ⟨by decide +kernel, rfl⟩
theorem eX7_held_88 : Dc cX7_held 88 (.aload_n 0) 1 89 := ⟨by decide +kernel, rfl⟩
theorem eX7_held_89 : Dc cX7_held 89 (.invokevirtual 167) 3 92 := ⟨by decide +kernel, rfl⟩
theorem eX7_held_92 : Dc cX7_held 92 (.goto 5) 3 95 := ⟨by decide +kernel, rfl⟩
theorem eX7_held_95 : Dc cX7_held 95 (.iload 4) 2 97 := ⟨by decide +kernel, rfl⟩
theorem eX7_held_97 : Dc cX7_held 97 (.istore 4) 2 99 := ⟨by decide +kernel, rfl⟩
theorem eX7_held_99 : Dc cX7_held 99 (.aload_n 0) 1 100 := ⟨by decide +kernel, rfl⟩
theorem eX7_held_100 : Dc cX7_held 100 (.getfield 40) 3 103 := ⟨by decide +kernel, rfl⟩
theorem eX7_held_103 : Dc cX7_held 103 (.iload 7) 2 105 := ⟨by decide +kernel, rfl⟩
theorem eX7_held_105 : Dc cX7_held 105 (.iaload) 1 106 := ⟨by decide +kernel, rfl⟩
theorem eX7_held_106 : Dc cX7_held 106 (.iload 5) 2 108 := ⟨by decide +kernel, rfl⟩
theorem eX7_held_108 : Dc cX7_held 108 (.if_icmp .ge 13) 3 111 := ⟨by decide +kernel, rfl⟩
theorem eX7_held_111 : Dc cX7_held 111 (.aload_n 0) 1 112 := ⟨by decide +kernel, rfl⟩
theorem eX7_held_112 : Dc cX7_held 112 (.getfield 40) 3 115 := ⟨by decide +kernel, rfl⟩
theorem eX7_held_115 : Dc cX7_held 115 (.iload 7) 2 117 := ⟨by decide +kernel, rfl⟩
theorem eX7_held_117 : Dc cX7_held 117 (.iaload) 1 118 := ⟨by decide +kernel, rfl⟩
theorem eX7_held_118 : Dc cX7_held 118 (.goto 5) 3 121 := ⟨by decide +kernel, rfl⟩
theorem eX7_held_121 : Dc cX7_held 121 (.iload 5) 2 123 := ⟨by decide +kernel, rfl⟩
theorem eX7_held_123 : Dc cX7_held 123 (.istore 5) 2 125 := ⟨by decide +kernel, rfl⟩
theorem eX7_held_125 : Dc cX7_held 125 (.aload_n 0) 1 126 := ⟨by decide +kernel, rfl⟩
theorem eX7_held_126 : Dc cX7_held 126 (.getfield 40) 3 129 := ⟨by decide +kernel, rfl⟩
theorem eX7_held_129 : Dc cX7_held 129 (.iload 7) 2 131 := ⟨by decide +kernel, rfl⟩
theorem eX7_held_131 : Dc cX7_held 131 (.iaload) 1 132 := ⟨by decide +kernel, rfl⟩
theorem eX7_held_132 : Dc cX7_held 132 (.iload 6) 2 134 := ⟨by decide +kernel, rfl⟩
theorem eX7_held_134 : Dc cX7_held 134 (.if_icmp .le 13) 3 137 := ⟨by decide +kernel, rfl⟩
theorem eX7_held_137 : Dc cX7_held 137 (.aload_n 0) 1 138 := ⟨by decide +kernel, rfl⟩
theorem eX7_held_138 : Dc cX7_held 138 (.getfield 40) 3 141 := ⟨by decide +kernel, rfl⟩
theorem eX7_held_141 : Dc cX7_held 141 (.iload 7) 2 143 := ⟨by decide +kernel, rfl⟩
theorem eX7_held_143 : Dc cX7_held 143 (.iaload) 1 144 := ⟨by decide +kernel, rfl⟩
theorem eX7_held_144 : Dc cX7_held 144 (.goto 5) 3 147 := ⟨by decide +kernel, rfl⟩
theorem eX7_held_147 : Dc cX7_held 147 (.iload 6) 2 149 := ⟨by decide +kernel, rfl⟩
theorem eX7_held_149 : Dc cX7_held 149 (.istore 6) 2 151 := ⟨by decide +kernel, rfl⟩
theorem eX7_held_151 : Dc cX7_held 151 (.aload_n 0) 1 152 := ⟨by decide +kernel, rfl⟩
theorem eX7_held_152 : Dc cX7_held 152 (.aload_n 0) 1 153 := ⟨by decide +kernel, rfl⟩
theorem eX7_held_153 : Dc cX7_held 153 (.getfield 73) 3 156 := ⟨by decide +kernel, rfl⟩
theorem eX7_held_156 : Dc cX7_held 156 (.invokevirtual 177) 3 159 := ⟨by decide +kernel, rfl⟩
theorem eX7_held_159 : Dc cX7_held 159 (.istore 8) 2 161 := ⟨by decide +kernel, rfl⟩
theorem eX7_held_161 : Dc cX7_held 161 (.goto (-101)) 3 164 := ⟨by decide +kernel, rfl⟩
theorem eX7_held_164 : Dc cX7_held 164 (.iload_n 1) 1 165 := ⟨by decide +kernel, rfl⟩
theorem eX7_held_165 : Dc cX7_held 165 (.iconst (-1)) 1 166 := ⟨by decide +kernel, rfl⟩
theorem eX7_held_166 : Dc cX7_held 166 (.if_icmp .ne 9) 3 169 := ⟨by decide +kernel, rfl⟩
theorem eX7_held_169 : Dc cX7_held 169 (.iload_n 2) 1 170 := ⟨by decide +kernel, rfl⟩
theorem eX7_held_170 : Dc cX7_held 170 (.ifCond .ne 5) 3 173 := ⟨by decide +kernel, rfl⟩
theorem eX7_held_173 : Dc cX7_held 173 (.iload_n 3) 1 174 := ⟨by decide +kernel, rfl⟩
theorem eX7_held_174 : Dc cX7_held 174 (.ireturn) 1 175 := ⟨by decide +kernel, rfl⟩
theorem eX7_held_175 : Dc cX7_held 175 (.iload_n 3) 1 176 := ⟨by decide +kernel, rfl⟩
theorem eX7_held_176 : Dc cX7_held 176 (.ifCond .ne 8) 3 179 := ⟨by decide +kernel, rfl⟩
theorem eX7_held_179 : Dc cX7_held 179 (.bipush (-6)) 2 181 := ⟨by decide +kernel, rfl⟩
theorem eX7_held_181 : Dc cX7_held 181 (.goto 24) 3 184 := ⟨by decide +kernel, rfl⟩
theorem eX7_held_184 : Dc cX7_held 184 (.iload_n 1) 1 185 := ⟨by decide +kernel, rfl⟩
theorem eX7_held_185 : Dc cX7_held 185 (.iconst (-1)) 1 186 := ⟨by decide +kernel, rfl⟩
theorem eX7_held_186 : Dc cX7_held 186 (.if_icmp .ne 8) 3 189 := ⟨by decide +kernel, rfl⟩
theorem eX7_held_189 : Dc cX7_held 189 (.iload 4) 2 191 := ⟨by decide +kernel, rfl⟩
theorem eX7_held_191 : Dc cX7_held 191 (.goto 14) 3 194 := ⟨by decide +kernel, rfl⟩
theorem eX7_held_194 : Dc cX7_held 194 (.iload_n 2) 1 195 := ⟨by decide +kernel, rfl⟩
theorem eX7_held_195 : Dc cX7_held 195 (.ifCond .ne 8) 3 198 := ⟨by decide +kernel, rfl⟩
theorem eX7_held_198 : Dc cX7_held 198 (.iload 5) 2 200 := ⟨by decide +kernel, rfl⟩
theorem eX7_held_200 : Dc cX7_held 200 (.goto 5) 3 203 := ⟨by decide +kernel, rfl⟩
theorem eX7_held_203 : Dc cX7_held 203 (.iload 6) 2 205 := ⟨by decide +kernel, rfl⟩
theorem eX7_held_205 : Dc cX7_held 205 (.ireturn) 1 206 := ⟨by decide +kernel, rfl⟩
def fX7_held_L60 (k : Int32 → Int32 → Int32 → Int32 → SS → Option (Int32 × SS)) (a1 : Int32) (a2 : Int32) (a7 : Int32) : Nat → Int32 → Int32 → Int32 → Int32 → Int32 → SS → Option (Int32 × SS)
  | 0, _, _, _, _, _, _ => none
  | n + 1, a3, a4, a5, a6, a8, c => if a8 = (0 : Int32) then k a3 a4 a5 a6 c else Option.bind (fX7_ridersNow c) (fun q5 => Option.bind (fX7_isSeenSo q5.2 q5.1) (fun q6 => jn (fun (x7 : Int32) (x8 : Int32) (x9 : Int32) (x10 : Int32) => Option.bind (fX7_nextHold q5.2 (q5.2.1 10)) (fun q11 => fX7_held_L60 k a1 a2 a7 n x7 x8 x9 x10 q11.1 q11.2)) (fun j151 => if q6 = (0 : Int32) then j151 a3 a4 a5 a6 else Option.bind (fX7_heldIn q5.2) (fun q13 => jn (fun (x14 : Int32) => ald 6 (q5.2.2 17) a7 (fun v15 => jn (fun (x16 : Int32) => ald 6 (q5.2.2 17) a7 (fun v17 => jn (fun (x18 : Int32) => j151 (a3 + (1 : Int32)) x14 x16 x18) (fun j149 => if v17 ≤ a6 then j149 a6 else ald 6 (q5.2.2 17) a7 (fun v20 => j149 v20)))) (fun j123 => if a5 ≤ v15 then j123 a5 else ald 6 (q5.2.2 17) a7 (fun v22 => j123 v22)))) (fun j97 => if a4 ≤ q13 then j97 a4 else Option.bind (fX7_heldIn q5.2) (fun q24 => j97 q24))))))
def fX7_held (c : SS) (p1 : Int32) (p2 : Int32) : Option (Int32 × SS) := jn (fun (_ : Unit) => if (fX7_in (p2).toInt64 (0 : Int64) (1 : Int64)) = (0 : Int32) then some ((-2 : Int32), c) else Option.bind (fX7_noHold c) (fun q2 => jn (fun (x3 : Int32) => fX7_held_L60 (fun (x25 : Int32) (x26 : Int32) (x27 : Int32) (x28 : Int32) (c29 : SS) => jn (fun (_ : Unit) => if x25 = (0 : Int32) then some ((-6 : Int32), c29) else if p1 = (-1 : Int32) then some (x26, c29) else if p2 = (0 : Int32) then some (x27, c29) else some (x28, c29)) (fun j175 => if p1 = (-1 : Int32) then if p2 = (0 : Int32) then some (x25, c29) else j175 () else j175 ())) p1 p2 x3 fu (0 : Int32) (1000000 : Int32) (1000000 : Int32) (-6 : Int32) (1 : Int32) q2) (fun j55 => if (0 : Int32) ≤ p1 then j55 p1 else j55 (0 : Int32)))) (fun j15 => if p1 = (-1 : Int32) then j15 () else if (fX7_isStop c p1) = (0 : Int32) then some ((-1 : Int32), c) else j15 ())
set_option maxRecDepth 20000 in
theorem ctX7_held_L60 (l : Launch) (G : tg_G) (A : Nat → Nat) (k : Int32 → Int32 → Int32 → Int32 → SS → Option (Int32 × SS)) (a1 : Int32) (a2 : Int32) (a7 : Int32) {z : Int32 × SS} (hk : ∀ (e3 : Int32) (e4 : Int32) (e5 : Int32) (e6 : Int32) (ec : SS), k e3 e4 e5 e6 ec = some z → V l G (tg_Zm G (fun v w1 => v = some (.int z.1) ∧ w1 = wM G A z.2) 0 0) tg_E0 (tg_R 3 68) "TramGodModel" "held" cX7_held 9 (some .int) 164 [(1, .int a1), (2, .int a2), (3, .int e3), (4, .int e4), (5, .int e5), (6, .int e6)] [] (wM G A ec) 0 0) : ∀ (n : Nat) (a3 : Int32) (a4 : Int32) (a5 : Int32) (a6 : Int32) (a8 : Int32) (c : SS), fX7_held_L60 k a1 a2 a7 n a3 a4 a5 a6 a8 c = some z → V l G (tg_Zm G (fun v w1 => v = some (.int z.1) ∧ w1 = wM G A z.2) 0 0) tg_E0 (tg_R 3 68) "TramGodModel" "held" cX7_held 9 (some .int) 60 [(0, .ref (A 0)), (1, .int a1), (2, .int a2), (3, .int a3), (4, .int a4), (5, .int a5), (6, .int a6), (7, .int a7), (8, .int a8)] [] (wM G A c) 0 0 := by
  intro n
  induction n with
  | zero => intro a3 a4 a5 a6 a8 c h; exact absurd h (by simp [fX7_held_L60])
  | succ n ih =>
    intro a3 a4 a5 a6 a8 c h
    unfold fX7_held_L60 at h
    refine V_iload eX7_held_60 8 rfl ?_
    refine V_if_eq (tgt := 164) eX7_held_62 rfl (fun hb4 => ?_) (fun hb4 => ?_)
    · replace h := (if_pos hb4).symm.trans h
      refine V_lv (lv' := [(1, .int a1), (2, .int a2), (3, .int a3), (4, .int a4), (5, .int a5), (6, .int a6)]) [1, 2, 3, 4, 5, 6] rfl ?_
      exact hk a3 a4 a5 a6 c h
    · replace h := (if_neg hb4).symm.trans h
      refine V_aload_n eX7_held_65 0 rfl ?_
      refine V_aload_n eX7_held_66 0 rfl ?_
      obtain ⟨q5, hc5, h⟩ := Option.bind_eq_some_iff.mp h
      refine V_callVi (rest := [.ref (A 0)]) eX7_held_67 (ctX7_ridersNow l G A c hc5) tc_830 tw_827 tw_8 tw_829 ts_26 0 rfl rfl hdX7_ridersNow rfl ⟨Nat.le_of_ble_eq_true rfl, Nat.le_of_ble_eq_true rfl⟩ rfl (Nat.le_of_ble_eq_true rfl) ⟨Nat.zero_le _, Nat.zero_le _⟩ ?_
      obtain ⟨q6, hc6, h⟩ := Option.bind_eq_some_iff.mp h
      refine V_callVi (rest := []) eX7_held_70 (ctX7_isSeenSo l G A q5.2 q5.1 hc6) tc_964 tw_961 tw_8 tw_963 ts_44 0 rfl rfl hdX7_isSeenSo rfl ⟨Nat.le_of_ble_eq_true rfl, Nat.le_of_ble_eq_true rfl⟩ rfl (Nat.le_of_ble_eq_true rfl) ⟨Nat.zero_le _, Nat.zero_le _⟩ ?_
      refine jn_elim h (fun j => ∀ (x7 : Int32) (x8 : Int32) (x9 : Int32) (x10 : Int32), j x7 x8 x9 x10 = some z → V l G (tg_Zm G (fun v w1 => v = some (.int z.1) ∧ w1 = wM G A z.2) 0 0) tg_E0 (tg_R 3 68) "TramGodModel" "held" cX7_held 9 (some .int) 151 [(0, .ref (A 0)), (1, .int a1), (2, .int a2), (3, .int x7), (4, .int x8), (5, .int x9), (6, .int x10), (7, .int a7)] [] (wM G A q5.2) 0 0) ?_ (fun j151 hj151 h => ?_)
      · intro x7 x8 x9 x10 h
        refine V_aload_n eX7_held_151 0 rfl ?_
        refine V_aload_n eX7_held_152 0 rfl ?_
        refine V_get (v := .int (q5.2.1 10)) eX7_held_153 inX7 0 rfl rfl 10 (Nat.le_of_ble_eq_true rfl) tw_655 rfl ?_
        obtain ⟨q11, hc11, h⟩ := Option.bind_eq_some_iff.mp h
        refine V_callVi (rest := []) eX7_held_156 (ctX7_nextHold l G A q5.2 (q5.2.1 10) hc11) tc_879 tw_876 tw_8 tw_878 ts_34 0 rfl rfl hdX7_nextHold rfl ⟨Nat.le_of_ble_eq_true rfl, Nat.le_of_ble_eq_true rfl⟩ rfl (Nat.le_of_ble_eq_true rfl) ⟨Nat.zero_le _, Nat.zero_le _⟩ ?_
        refine V_istore (lv' := [(8, .int q11.1), (0, .ref (A 0)), (1, .int a1), (2, .int a2), (3, .int x7), (4, .int x8), (5, .int x9), (6, .int x10), (7, .int a7)]) eX7_held_159 (Nat.le_of_ble_eq_true rfl) rfl ?_
        refine V_goto (tgt := 60) eX7_held_161 rfl ?_
        refine V_lv (lv' := [(0, .ref (A 0)), (1, .int a1), (2, .int a2), (3, .int x7), (4, .int x8), (5, .int x9), (6, .int x10), (7, .int a7), (8, .int q11.1)]) [1, 2, 3, 4, 5, 6, 7, 8, 0] rfl ?_
        exact ih x7 x8 x9 x10 q11.1 q11.2 h
      refine V_if_eq (tgt := 151) eX7_held_73 rfl (fun hb12 => ?_) (fun hb12 => ?_)
      · replace h := (if_pos hb12).symm.trans h
        refine V_lv (lv' := [(0, .ref (A 0)), (1, .int a1), (2, .int a2), (3, .int a3), (4, .int a4), (5, .int a5), (6, .int a6), (7, .int a7)]) [0, 1, 2, 3, 4, 5, 6, 7] rfl ?_
        exact hj151 a3 a4 a5 a6 h
      · replace h := (if_neg hb12).symm.trans h
        refine V_iinc (v := (a3 + (1 : Int32))) (lv' := [(3, .int (a3 + (1 : Int32))), (0, .ref (A 0)), (1, .int a1), (2, .int a2), (4, .int a4), (5, .int a5), (6, .int a6), (7, .int a7), (8, .int a8)]) eX7_held_76 3 rfl rfl (Nat.le_of_ble_eq_true rfl) rfl ?_
        refine V_aload_n eX7_held_79 1 rfl ?_
        obtain ⟨q13, hc13, h⟩ := Option.bind_eq_some_iff.mp h
        refine V_callVi (rest := []) eX7_held_80 (ctX7_heldIn l G A q5.2 hc13) tc_883 tw_880 tw_8 tw_882 ts_35 0 rfl rfl hdX7_heldIn rfl ⟨Nat.le_of_ble_eq_true rfl, Nat.le_of_ble_eq_true rfl⟩ rfl (Nat.le_of_ble_eq_true rfl) ⟨Nat.zero_le _, Nat.zero_le _⟩ ?_
        refine V_iload eX7_held_83 4 rfl ?_
        refine jn_elim h (fun j => ∀ (x14 : Int32), j x14 = some z → V l G (tg_Zm G (fun v w1 => v = some (.int z.1) ∧ w1 = wM G A z.2) 0 0) tg_E0 (tg_R 3 68) "TramGodModel" "held" cX7_held 9 (some .int) 97 [(0, .ref (A 0)), (1, .int a1), (2, .int a2), (3, .int (a3 + (1 : Int32))), (5, .int a5), (6, .int a6), (7, .int a7)] [.int x14] (wM G A q5.2) 0 0) ?_ (fun j97 hj97 h => ?_)
        · intro x14 h
          refine V_istore (lv' := [(4, .int x14), (0, .ref (A 0)), (1, .int a1), (2, .int a2), (3, .int (a3 + (1 : Int32))), (5, .int a5), (6, .int a6), (7, .int a7)]) eX7_held_97 (Nat.le_of_ble_eq_true rfl) rfl ?_
          refine V_aload_n eX7_held_99 1 rfl ?_
          refine V_get (v := .ref (A 11)) eX7_held_100 inX7 0 rfl rfl 17 (Nat.le_of_ble_eq_true rfl) tw_662 rfl ?_
          refine V_iload eX7_held_103 7 rfl ?_
          obtain ⟨v15, hi15, ev15, h⟩ := ald_some h
          refine V_ialdv eX7_held_105 11 rfl hi15 ev15 ?_
          refine V_iload eX7_held_106 5 rfl ?_
          refine jn_elim h (fun j => ∀ (x16 : Int32), j x16 = some z → V l G (tg_Zm G (fun v w1 => v = some (.int z.1) ∧ w1 = wM G A z.2) 0 0) tg_E0 (tg_R 3 68) "TramGodModel" "held" cX7_held 9 (some .int) 123 [(0, .ref (A 0)), (1, .int a1), (2, .int a2), (3, .int (a3 + (1 : Int32))), (4, .int x14), (6, .int a6), (7, .int a7)] [.int x16] (wM G A q5.2) 0 0) ?_ (fun j123 hj123 h => ?_)
          · intro x16 h
            refine V_istore (lv' := [(5, .int x16), (0, .ref (A 0)), (1, .int a1), (2, .int a2), (3, .int (a3 + (1 : Int32))), (4, .int x14), (6, .int a6), (7, .int a7)]) eX7_held_123 (Nat.le_of_ble_eq_true rfl) rfl ?_
            refine V_aload_n eX7_held_125 1 rfl ?_
            refine V_get (v := .ref (A 11)) eX7_held_126 inX7 0 rfl rfl 17 (Nat.le_of_ble_eq_true rfl) tw_662 rfl ?_
            refine V_iload eX7_held_129 7 rfl ?_
            obtain ⟨v17, hi17, ev17, h⟩ := ald_some h
            refine V_ialdv eX7_held_131 11 rfl hi17 ev17 ?_
            refine V_iload eX7_held_132 6 rfl ?_
            refine jn_elim h (fun j => ∀ (x18 : Int32), j x18 = some z → V l G (tg_Zm G (fun v w1 => v = some (.int z.1) ∧ w1 = wM G A z.2) 0 0) tg_E0 (tg_R 3 68) "TramGodModel" "held" cX7_held 9 (some .int) 149 [(0, .ref (A 0)), (1, .int a1), (2, .int a2), (3, .int (a3 + (1 : Int32))), (4, .int x14), (5, .int x16), (7, .int a7)] [.int x18] (wM G A q5.2) 0 0) ?_ (fun j149 hj149 h => ?_)
            · intro x18 h
              refine V_istore (lv' := [(6, .int x18), (0, .ref (A 0)), (1, .int a1), (2, .int a2), (3, .int (a3 + (1 : Int32))), (4, .int x14), (5, .int x16), (7, .int a7)]) eX7_held_149 (Nat.le_of_ble_eq_true rfl) rfl ?_
              refine V_lv (lv' := [(0, .ref (A 0)), (1, .int a1), (2, .int a2), (3, .int (a3 + (1 : Int32))), (4, .int x14), (5, .int x16), (6, .int x18), (7, .int a7)]) [1, 2, 3, 4, 5, 6, 0, 7] rfl ?_
              exact hj151 (a3 + (1 : Int32)) x14 x16 x18 h
            refine V_icmp_le (tgt := 147) eX7_held_134 rfl (fun hb19 => ?_) (fun hb19 => ?_)
            · replace h := (if_pos hb19).symm.trans h
              refine V_iload eX7_held_147 6 rfl ?_
              refine V_lv (lv' := [(0, .ref (A 0)), (1, .int a1), (2, .int a2), (3, .int (a3 + (1 : Int32))), (4, .int x14), (5, .int x16), (7, .int a7)]) [1, 2, 3, 4, 5, 0, 7] rfl ?_
              exact hj149 a6 h
            · replace h := (if_neg hb19).symm.trans h
              refine V_aload_n eX7_held_137 1 rfl ?_
              refine V_get (v := .ref (A 11)) eX7_held_138 inX7 0 rfl rfl 17 (Nat.le_of_ble_eq_true rfl) tw_662 rfl ?_
              refine V_iload eX7_held_141 7 rfl ?_
              obtain ⟨v20, hi20, ev20, h⟩ := ald_some h
              refine V_ialdv eX7_held_143 11 rfl hi20 ev20 ?_
              refine V_goto (tgt := 149) eX7_held_144 rfl ?_
              refine V_lv (lv' := [(0, .ref (A 0)), (1, .int a1), (2, .int a2), (3, .int (a3 + (1 : Int32))), (4, .int x14), (5, .int x16), (7, .int a7)]) [1, 2, 3, 4, 5, 0, 7] rfl ?_
              exact hj149 v20 h
          refine V_icmp_ge (tgt := 121) eX7_held_108 rfl (fun hb21 => ?_) (fun hb21 => ?_)
          · replace h := (if_pos hb21).symm.trans h
            refine V_iload eX7_held_121 5 rfl ?_
            refine V_lv (lv' := [(0, .ref (A 0)), (1, .int a1), (2, .int a2), (3, .int (a3 + (1 : Int32))), (4, .int x14), (6, .int a6), (7, .int a7)]) [1, 2, 3, 4, 0, 6, 7] rfl ?_
            exact hj123 a5 h
          · replace h := (if_neg hb21).symm.trans h
            refine V_aload_n eX7_held_111 1 rfl ?_
            refine V_get (v := .ref (A 11)) eX7_held_112 inX7 0 rfl rfl 17 (Nat.le_of_ble_eq_true rfl) tw_662 rfl ?_
            refine V_iload eX7_held_115 7 rfl ?_
            obtain ⟨v22, hi22, ev22, h⟩ := ald_some h
            refine V_ialdv eX7_held_117 11 rfl hi22 ev22 ?_
            refine V_goto (tgt := 123) eX7_held_118 rfl ?_
            refine V_lv (lv' := [(0, .ref (A 0)), (1, .int a1), (2, .int a2), (3, .int (a3 + (1 : Int32))), (4, .int x14), (6, .int a6), (7, .int a7)]) [1, 2, 3, 4, 0, 6, 7] rfl ?_
            exact hj123 v22 h
        refine V_icmp_ge (tgt := 95) eX7_held_85 rfl (fun hb23 => ?_) (fun hb23 => ?_)
        · replace h := (if_pos hb23).symm.trans h
          refine V_iload eX7_held_95 4 rfl ?_
          refine V_lv (lv' := [(0, .ref (A 0)), (1, .int a1), (2, .int a2), (3, .int (a3 + (1 : Int32))), (5, .int a5), (6, .int a6), (7, .int a7)]) [1, 2, 3, 0, 5, 6, 7] rfl ?_
          exact hj97 a4 h
        · replace h := (if_neg hb23).symm.trans h
          refine V_aload_n eX7_held_88 1 rfl ?_
          obtain ⟨q24, hc24, h⟩ := Option.bind_eq_some_iff.mp h
          refine V_callVi (rest := []) eX7_held_89 (ctX7_heldIn l G A q5.2 hc24) tc_883 tw_880 tw_8 tw_882 ts_35 0 rfl rfl hdX7_heldIn rfl ⟨Nat.le_of_ble_eq_true rfl, Nat.le_of_ble_eq_true rfl⟩ rfl (Nat.le_of_ble_eq_true rfl) ⟨Nat.zero_le _, Nat.zero_le _⟩ ?_
          refine V_goto (tgt := 97) eX7_held_92 rfl ?_
          refine V_lv (lv' := [(0, .ref (A 0)), (1, .int a1), (2, .int a2), (3, .int (a3 + (1 : Int32))), (5, .int a5), (6, .int a6), (7, .int a7)]) [1, 2, 3, 0, 5, 6, 7] rfl ?_
          exact hj97 q24 h
set_option maxRecDepth 20000 in
theorem ctX7_held (l : Launch) (G : tg_G) (A : Nat → Nat) (c : SS) (p1 : Int32) (p2 : Int32) {z : Int32 × SS} (h : fX7_held c p1 p2 = some z) : Mt l G yX7_held cX7_held 9 (some .int) (tg_R 3 68) [.ref (A 0), .int p1, .int p2] (wM G A c) (fun v w1 => v = some (.int z.1) ∧ w1 = wM G A z.2) := by
  refine Mt_of2 (own := "TramGodModel") (nm := "held") rfl rfl rfl (Nat.le_of_ble_eq_true rfl) (lv := [(0, .ref (A 0)), (1, .int p1), (2, .int p2)]) rfl ?_
  unfold fX7_held at h
  refine V_iload_n eX7_held_0 1 rfl ?_
  refine V_iconst (v := (-1 : Int32)) eX7_held_1 rfl ?_
  refine jn_elim h (fun j => j () = some z → V l G (tg_Zm G (fun v w1 => v = some (.int z.1) ∧ w1 = wM G A z.2) 0 0) tg_E0 (tg_R 3 68) "TramGodModel" "held" cX7_held 9 (some .int) 15 [(0, .ref (A 0)), (1, .int p1), (2, .int p2)] [] (wM G A c) 0 0) ?_ (fun j15 hj15 h => ?_)
  · intro h
    refine V_iload_n eX7_held_15 2 rfl ?_
    refine V_i2l eX7_held_16 ?_
    refine V_lconst (v := (0 : Int64)) eX7_held_17 rfl ?_
    refine V_lconst (v := (1 : Int64)) eX7_held_18 rfl ?_
    refine V_callSi (rest := []) eX7_held_19 (ctX7_in l G _ (p2).toInt64 (0 : Int64) (1 : Int64) rfl) tc_748 tw_746 tw_8 tw_747 hdX7_in rfl ⟨Nat.le_of_ble_eq_true rfl, Nat.le_of_ble_eq_true rfl⟩ rfl (Nat.le_of_ble_eq_true rfl) ⟨Nat.zero_le _, Nat.zero_le _⟩ ?_
    refine V_if_ne (tgt := 28) eX7_held_22 rfl (fun hb1 => ?_) (fun hb1 => ?_)
    · replace h := (if_neg hb1).symm.trans h
      refine V_aload_n eX7_held_28 0 rfl ?_
      obtain ⟨q2, hc2, h⟩ := Option.bind_eq_some_iff.mp h
      refine V_callVv (rest := []) eX7_held_29 (ctX7_noHold l G A c hc2) tc_870 tw_867 tw_8 tw_869 ts_32 0 rfl rfl hdX7_noHold rfl ⟨Nat.le_of_ble_eq_true rfl, Nat.le_of_ble_eq_true rfl⟩ rfl (Nat.le_of_ble_eq_true rfl) ⟨Nat.zero_le _, Nat.zero_le _⟩ ?_
      refine V_iconst (v := (0 : Int32)) eX7_held_32 rfl ?_
      refine V_istore_n (lv' := [(3, .int (0 : Int32)), (0, .ref (A 0)), (1, .int p1), (2, .int p2)]) eX7_held_33 (Nat.le_of_ble_eq_true rfl) rfl ?_
      refine V_ldc eX7_held_34 tw_960 ?_
      refine V_istore (lv' := [(4, .int (1000000 : Int32)), (3, .int (0 : Int32)), (0, .ref (A 0)), (1, .int p1), (2, .int p2)]) eX7_held_36 (Nat.le_of_ble_eq_true rfl) rfl ?_
      refine V_ldc eX7_held_38 tw_960 ?_
      refine V_istore (lv' := [(5, .int (1000000 : Int32)), (4, .int (1000000 : Int32)), (3, .int (0 : Int32)), (0, .ref (A 0)), (1, .int p1), (2, .int p2)]) eX7_held_40 (Nat.le_of_ble_eq_true rfl) rfl ?_
      refine V_bipush (v := (-6 : Int32)) eX7_held_42 rfl ?_
      refine V_istore (lv' := [(6, .int (-6 : Int32)), (5, .int (1000000 : Int32)), (4, .int (1000000 : Int32)), (3, .int (0 : Int32)), (0, .ref (A 0)), (1, .int p1), (2, .int p2)]) eX7_held_44 (Nat.le_of_ble_eq_true rfl) rfl ?_
      refine V_iload_n eX7_held_46 5 rfl ?_
      refine jn_elim h (fun j => ∀ (x3 : Int32), j x3 = some z → V l G (tg_Zm G (fun v w1 => v = some (.int z.1) ∧ w1 = wM G A z.2) 0 0) tg_E0 (tg_R 3 68) "TramGodModel" "held" cX7_held 9 (some .int) 55 [(0, .ref (A 0)), (1, .int p1), (2, .int p2), (3, .int (0 : Int32)), (4, .int (1000000 : Int32)), (5, .int (1000000 : Int32)), (6, .int (-6 : Int32))] [.int x3] (wM G A q2) 0 0) ?_ (fun j55 hj55 h => ?_)
      · intro x3 h
        refine V_istore (lv' := [(7, .int x3), (0, .ref (A 0)), (1, .int p1), (2, .int p2), (3, .int (0 : Int32)), (4, .int (1000000 : Int32)), (5, .int (1000000 : Int32)), (6, .int (-6 : Int32))]) eX7_held_55 (Nat.le_of_ble_eq_true rfl) rfl ?_
        refine V_iconst (v := (1 : Int32)) eX7_held_57 rfl ?_
        refine V_istore (lv' := [(8, .int (1 : Int32)), (7, .int x3), (0, .ref (A 0)), (1, .int p1), (2, .int p2), (3, .int (0 : Int32)), (4, .int (1000000 : Int32)), (5, .int (1000000 : Int32)), (6, .int (-6 : Int32))]) eX7_held_58 (Nat.le_of_ble_eq_true rfl) rfl ?_
        refine V_lv (lv' := [(0, .ref (A 0)), (1, .int p1), (2, .int p2), (3, .int (0 : Int32)), (4, .int (1000000 : Int32)), (5, .int (1000000 : Int32)), (6, .int (-6 : Int32)), (7, .int x3), (8, .int (1 : Int32))]) [2, 3, 4, 5, 6, 7, 8, 1, 0] rfl ?_
        refine ctX7_held_L60 l G A _ p1 p2 x3 ?_ fu (0 : Int32) (1000000 : Int32) (1000000 : Int32) (-6 : Int32) (1 : Int32) q2 h
        · intro x25 x26 x27 x28 c29 h
          refine V_iload_n eX7_held_164 0 rfl ?_
          refine V_iconst (v := (-1 : Int32)) eX7_held_165 rfl ?_
          refine jn_elim h (fun j => j () = some z → V l G (tg_Zm G (fun v w1 => v = some (.int z.1) ∧ w1 = wM G A z.2) 0 0) tg_E0 (tg_R 3 68) "TramGodModel" "held" cX7_held 9 (some .int) 175 [(1, .int p1), (2, .int p2), (3, .int x25), (4, .int x26), (5, .int x27), (6, .int x28)] [] (wM G A c29) 0 0) ?_ (fun j175 hj175 h => ?_)
          · intro h
            refine V_iload_n eX7_held_175 2 rfl ?_
            refine V_if_ne (tgt := 184) eX7_held_176 rfl (fun hb30 => ?_) (fun hb30 => ?_)
            · replace h := (if_neg hb30).symm.trans h
              refine V_iload_n eX7_held_184 0 rfl ?_
              refine V_iconst (v := (-1 : Int32)) eX7_held_185 rfl ?_
              refine V_icmp_ne (tgt := 194) eX7_held_186 rfl (fun hb31 => ?_) (fun hb31 => ?_)
              · replace h := (if_neg hb31).symm.trans h
                refine V_iload_n eX7_held_194 1 rfl ?_
                refine V_if_ne (tgt := 203) eX7_held_195 rfl (fun hb32 => ?_) (fun hb32 => ?_)
                · replace h := (if_neg hb32).symm.trans h
                  refine V_iload eX7_held_203 5 rfl ?_
                  obtain rfl := Option.some.inj h
                  exact V_ret eX7_held_205 rfl ⟨rfl, rfl⟩
                · replace h := (if_pos hb32).symm.trans h
                  refine V_iload eX7_held_198 4 rfl ?_
                  refine V_goto (tgt := 205) eX7_held_200 rfl ?_
                  obtain rfl := Option.some.inj h
                  exact V_ret eX7_held_205 rfl ⟨rfl, rfl⟩
              · replace h := (if_pos hb31).symm.trans h
                refine V_iload eX7_held_189 3 rfl ?_
                refine V_goto (tgt := 205) eX7_held_191 rfl ?_
                obtain rfl := Option.some.inj h
                exact V_ret eX7_held_205 rfl ⟨rfl, rfl⟩
            · replace h := (if_pos hb30).symm.trans h
              refine V_bipush (v := (-6 : Int32)) eX7_held_179 rfl ?_
              refine V_goto (tgt := 205) eX7_held_181 rfl ?_
              obtain rfl := Option.some.inj h
              exact V_ret eX7_held_205 rfl ⟨rfl, rfl⟩
          refine V_icmp_ne (tgt := 175) eX7_held_166 rfl (fun hb33 => ?_) (fun hb33 => ?_)
          · replace h := (if_neg hb33).symm.trans h
            exact hj175 h
          · replace h := (if_pos hb33).symm.trans h
            refine V_iload_n eX7_held_169 1 rfl ?_
            refine V_if_ne (tgt := 175) eX7_held_170 rfl (fun hb34 => ?_) (fun hb34 => ?_)
            · replace h := (if_neg hb34).symm.trans h
              exact hj175 h
            · replace h := (if_pos hb34).symm.trans h
              refine V_iload_n eX7_held_173 2 rfl ?_
              obtain rfl := Option.some.inj h
              exact V_ret eX7_held_174 rfl ⟨rfl, rfl⟩
      refine V_if_ge (tgt := 54) eX7_held_47 rfl (fun hb35 => ?_) (fun hb35 => ?_)
      · replace h := (if_pos hb35).symm.trans h
        refine V_iload_n eX7_held_54 5 rfl ?_
        refine V_lv (lv' := [(0, .ref (A 0)), (1, .int p1), (2, .int p2), (3, .int (0 : Int32)), (4, .int (1000000 : Int32)), (5, .int (1000000 : Int32)), (6, .int (-6 : Int32))]) [4, 5, 6, 3, 2, 1, 0] rfl ?_
        exact hj55 p1 h
      · replace h := (if_neg hb35).symm.trans h
        refine V_iconst (v := (0 : Int32)) eX7_held_50 rfl ?_
        refine V_goto (tgt := 55) eX7_held_51 rfl ?_
        refine V_lv (lv' := [(0, .ref (A 0)), (1, .int p1), (2, .int p2), (3, .int (0 : Int32)), (4, .int (1000000 : Int32)), (5, .int (1000000 : Int32)), (6, .int (-6 : Int32))]) [4, 5, 6, 3, 2, 1, 0] rfl ?_
        exact hj55 (0 : Int32) h
    · replace h := (if_pos hb1).symm.trans h
      refine V_bipush (v := (-2 : Int32)) eX7_held_25 rfl ?_
      obtain rfl := Option.some.inj h
      exact V_ret eX7_held_27 rfl ⟨rfl, rfl⟩
  refine V_icmp_eq (tgt := 15) eX7_held_2 rfl (fun hb36 => ?_) (fun hb36 => ?_)
  · replace h := (if_pos hb36).symm.trans h
    exact hj15 h
  · replace h := (if_neg hb36).symm.trans h
    refine V_aload_n eX7_held_5 0 rfl ?_
    refine V_iload_n eX7_held_6 1 rfl ?_
    refine V_callVi (rest := []) eX7_held_7 (ctX7_isStop l G A c p1 rfl) tc_774 tw_771 tw_8 tw_773 ts_21 0 rfl rfl hdX7_isStop rfl ⟨Nat.le_of_ble_eq_true rfl, Nat.le_of_ble_eq_true rfl⟩ rfl (Nat.le_of_ble_eq_true rfl) ⟨Nat.zero_le _, Nat.zero_le _⟩ ?_
    refine V_if_ne (tgt := 15) eX7_held_10 rfl (fun hb37 => ?_) (fun hb37 => ?_)
    · replace h := (if_neg hb37).symm.trans h
      exact hj15 h
    · replace h := (if_pos hb37).symm.trans h
      refine V_iconst (v := (-1 : Int32)) eX7_held_13 rfl ?_
      obtain rfl := Option.some.inj h
      exact V_ret eX7_held_14 rfl ⟨rfl, rfl⟩
theorem hdX7_isRunning : yX7_isRunning.cls ≠ "java/lang/invoke/MethodHandle" ∧ yX7_isRunning.cls ≠ "java/lang/invoke/VarHandle" ∧ (parseMethodDescriptor yX7_isRunning.desc).map (fun d => d.parameters.length) = some 2 := by decide +kernel
theorem eX7_isRunning_0 : Dc cX7_isRunning 0 (.iload_n 0) 1 1 := ⟨by decide +kernel, rfl⟩
theorem eX7_isRunning_1 : Dc cX7_isRunning 1 (.i2l) 1 2 := ⟨by decide +kernel, rfl⟩
theorem eX7_isRunning_2 : Dc cX7_isRunning 2 (.lconst 1) 1 3 := ⟨by decide +kernel, rfl⟩
theorem eX7_isRunning_3 : Dc cX7_isRunning 3 (.ldc2_w 229) 3 6 := ⟨by decide +kernel, rfl⟩
theorem eX7_isRunning_6 : Dc cX7_isRunning 6 (.invokestatic 79) 3 9 := ⟨by decide +kernel, rfl⟩
theorem eX7_isRunning_9 : Dc cX7_isRunning 9 (.ifCond .eq 19) 3 12 := ⟨by decide +kernel, rfl⟩
theorem eX7_isRunning_12 : Dc cX7_isRunning 12 (.iload_n 1) 1 13 := ⟨by decide +kernel, rfl⟩
theorem eX7_isRunning_13 : Dc cX7_isRunning 13 (.i2l) 1 14 := ⟨by decide +kernel, rfl⟩
theorem eX7_isRunning_14 : Dc cX7_isRunning 14 (.lconst 0) 1 15 := ⟨by decide +kernel, rfl⟩
theorem eX7_isRunning_15 : Dc cX7_isRunning 15 (.ldc2_w 231) 3 18 := ⟨by decide +kernel, rfl⟩
theorem eX7_isRunning_18 : Dc cX7_isRunning 18 (.invokestatic 79) 3 21 := ⟨by decide +kernel, rfl⟩
theorem eX7_isRunning_21 : Dc cX7_isRunning 21 (.ifCond .eq 7) 3 24 := ⟨by decide +kernel, rfl⟩
theorem eX7_isRunning_24 : Dc cX7_isRunning 24 (.iconst 1) 1 25 := ⟨by decide +kernel, rfl⟩
theorem eX7_isRunning_25 : Dc cX7_isRunning 25 (.goto 4) 3 28 := ⟨by decide +kernel, rfl⟩
theorem eX7_isRunning_28 : Dc cX7_isRunning 28 (.iconst 0) 1 29 := ⟨by decide +kernel, rfl⟩
theorem eX7_isRunning_29 : Dc cX7_isRunning 29 (.ireturn) 1 30 := ⟨by decide +kernel, rfl⟩
def fX7_isRunning (p0 : Int32) (p1 : Int32) : Int32 := if (fX7_in (p0).toInt64 (1 : Int64) (20 : Int64)) = (0 : Int32) then (0 : Int32) else if (fX7_in (p1).toInt64 (0 : Int64) (10 : Int64)) = (0 : Int32) then (0 : Int32) else (1 : Int32)
set_option maxRecDepth 20000 in
theorem ctX7_isRunning (l : Launch) (G : tg_G) (w : va_W) (p0 : Int32) (p1 : Int32) {z : Int32} (h : fX7_isRunning p0 p1 = z) : Mt l G yX7_isRunning cX7_isRunning 2 (some .boolean) (tg_R 1 25) [.int p0, .int p1] (w) (fun v w1 => v = some (.int z) ∧ w1 = w) := by
  refine Mt_of2 (own := "TramGodModel") (nm := "isRunning") rfl rfl rfl (Nat.le_of_ble_eq_true rfl) (lv := [(0, .int p0), (1, .int p1)]) rfl ?_
  unfold fX7_isRunning at h
  refine V_iload_n eX7_isRunning_0 0 rfl ?_
  refine V_i2l eX7_isRunning_1 ?_
  refine V_lconst (v := (1 : Int64)) eX7_isRunning_2 rfl ?_
  refine V_ldc2 eX7_isRunning_3 tw_973 ?_
  refine V_callSi (rest := []) eX7_isRunning_6 (ctX7_in l G _ (p0).toInt64 (1 : Int64) (20 : Int64) rfl) tc_748 tw_746 tw_8 tw_747 hdX7_in rfl ⟨Nat.le_of_ble_eq_true rfl, Nat.le_of_ble_eq_true rfl⟩ rfl (Nat.le_of_ble_eq_true rfl) ⟨Nat.zero_le _, Nat.zero_le _⟩ ?_
  refine V_if_eq (tgt := 28) eX7_isRunning_9 rfl (fun hb1 => ?_) (fun hb1 => ?_)
  · replace h := (if_pos hb1).symm.trans h
    refine V_iconst (v := (0 : Int32)) eX7_isRunning_28 rfl ?_
    subst h
    exact V_zret eX7_isRunning_29 rfl rfl ⟨rfl, rfl⟩
  · replace h := (if_neg hb1).symm.trans h
    refine V_iload_n eX7_isRunning_12 1 rfl ?_
    refine V_i2l eX7_isRunning_13 ?_
    refine V_lconst (v := (0 : Int64)) eX7_isRunning_14 rfl ?_
    refine V_ldc2 eX7_isRunning_15 tw_974 ?_
    refine V_callSi (rest := []) eX7_isRunning_18 (ctX7_in l G _ (p1).toInt64 (0 : Int64) (10 : Int64) rfl) tc_748 tw_746 tw_8 tw_747 hdX7_in rfl ⟨Nat.le_of_ble_eq_true rfl, Nat.le_of_ble_eq_true rfl⟩ rfl (Nat.le_of_ble_eq_true rfl) ⟨Nat.zero_le _, Nat.zero_le _⟩ ?_
    refine V_if_eq (tgt := 28) eX7_isRunning_21 rfl (fun hb2 => ?_) (fun hb2 => ?_)
    · replace h := (if_pos hb2).symm.trans h
      refine V_iconst (v := (0 : Int32)) eX7_isRunning_28 rfl ?_
      subst h
      exact V_zret eX7_isRunning_29 rfl rfl ⟨rfl, rfl⟩
    · replace h := (if_neg hb2).symm.trans h
      refine V_iconst (v := (1 : Int32)) eX7_isRunning_24 rfl ?_
      refine V_goto (tgt := 29) eX7_isRunning_25 rfl ?_
      subst h
      exact V_zret eX7_isRunning_29 rfl rfl ⟨rfl, rfl⟩
theorem bzX7_isRunning (p0 : Int32) (p1 : Int32) : narrow .boolean (.int (fX7_isRunning p0 p1)) = .int (fX7_isRunning p0 p1) := by
  unfold fX7_isRunning
  repeat' split
  all_goals first | rfl | exact (bzX7_in (p1).toInt64 (0 : Int64) (10 : Int64)) | exact (bzX7_in (p0).toInt64 (1 : Int64) (20 : Int64))
theorem hdX7_tenthsOf : yX7_tenthsOf.cls ≠ "java/lang/invoke/MethodHandle" ∧ yX7_tenthsOf.cls ≠ "java/lang/invoke/VarHandle" ∧ (parseMethodDescriptor yX7_tenthsOf.desc).map (fun d => d.parameters.length) = some 3 := by decide +kernel
theorem eX7_tenthsOf_0 : Dc cX7_tenthsOf 0 (.aload_n 0) 1 1 := ⟨by decide +kernel, rfl⟩
theorem eX7_tenthsOf_1 : Dc cX7_tenthsOf 1 (.iload_n 1) 1 2 := ⟨by decide +kernel, rfl⟩
theorem eX7_tenthsOf_2 : Dc cX7_tenthsOf 2 (.iconst 0) 1 3 := ⟨by decide +kernel, rfl⟩
theorem eX7_tenthsOf_3 : Dc cX7_tenthsOf 3 (.invokevirtual 137) 3 6 := ⟨by decide +kernel, rfl⟩
theorem eX7_tenthsOf_6 : Dc cX7_tenthsOf 6 (.ifCond .eq 10) 3 9 := ⟨by decide +kernel, rfl⟩
theorem eX7_tenthsOf_9 : Dc cX7_tenthsOf 9 (.bipush 10) 2 11 := ⟨by decide +kernel, rfl⟩
theorem eX7_tenthsOf_11 : Dc cX7_tenthsOf 11 (.iload_n 3) 1 12 := ⟨by decide +kernel, rfl⟩
theorem eX7_tenthsOf_12 : Dc cX7_tenthsOf 12 (.isub) 1 13 := ⟨by decide +kernel, rfl⟩
theorem eX7_tenthsOf_13 : Dc cX7_tenthsOf 13 (.goto 4) 3 16 := ⟨by decide +kernel, rfl⟩
theorem eX7_tenthsOf_16 : Dc cX7_tenthsOf 16 (.iconst 0) 1 17 := ⟨by decide +kernel, rfl⟩
theorem eX7_tenthsOf_17 : Dc cX7_tenthsOf 17 (.aload_n 0) 1 18 := ⟨by decide +kernel, rfl⟩
theorem eX7_tenthsOf_18 : Dc cX7_tenthsOf 18 (.iload_n 1) 1 19 := ⟨by decide +kernel, rfl⟩
theorem eX7_tenthsOf_19 : Dc cX7_tenthsOf 19 (.iload_n 2) 1 20 := ⟨by decide +kernel, rfl⟩
theorem eX7_tenthsOf_20 : Dc cX7_tenthsOf 20 (.invokevirtual 137) 3 23 := ⟨by decide +kernel, rfl⟩
theorem eX7_tenthsOf_23 : Dc cX7_tenthsOf 23 (.ifCond .eq 7) 3 26 := ⟨by decide +kernel, rfl⟩
theorem eX7_tenthsOf_26 : Dc cX7_tenthsOf 26 (.iload_n 3) 1 27 := ⟨by decide +kernel, rfl⟩
theorem eX7_tenthsOf_27 : Dc cX7_tenthsOf 27 (.goto 4) 3 30 := ⟨by decide +kernel, rfl⟩
theorem eX7_tenthsOf_30 : Dc cX7_tenthsOf 30 (.iconst 0) 1 31 := ⟨by decide +kernel, rfl⟩
theorem eX7_tenthsOf_31 : Dc cX7_tenthsOf 31 (.iadd) 1 32 := ⟨by decide +kernel, rfl⟩
theorem eX7_tenthsOf_32 : Dc cX7_tenthsOf 32 (.ireturn) 1 33 := ⟨by decide +kernel, rfl⟩
def fX7_tenthsOf (c : SS) (p1 : Int32) (p2 : Int32) (p3 : Int32) : Option (Int32) := Option.bind (fX7_rides c p1 (0 : Int32)) (fun q1 => jn (fun (x2 : Int32) => Option.bind (fX7_rides c p1 p2) (fun q3 => jn (fun (x4 : Int32) => some (x2 + x4)) (fun j31 => if q3 = (0 : Int32) then j31 (0 : Int32) else j31 p3))) (fun j17 => if q1 = (0 : Int32) then j17 (0 : Int32) else j17 ((10 : Int32) - p3)))
set_option maxRecDepth 20000 in
theorem ctX7_tenthsOf (l : Launch) (G : tg_G) (A : Nat → Nat) (c : SS) (p1 : Int32) (p2 : Int32) (p3 : Int32) {z : Int32} (h : fX7_tenthsOf c p1 p2 p3 = some z) : Mt l G yX7_tenthsOf cX7_tenthsOf 4 (some .int) (tg_R 2 43) [.ref (A 0), .int p1, .int p2, .int p3] (wM G A c) (fun v w1 => v = some (.int z) ∧ w1 = wM G A c) := by
  refine Mt_of2 (own := "TramGodModel") (nm := "tenthsOf") rfl rfl rfl (Nat.le_of_ble_eq_true rfl) (lv := [(0, .ref (A 0)), (1, .int p1), (2, .int p2), (3, .int p3)]) rfl ?_
  unfold fX7_tenthsOf at h
  refine V_aload_n eX7_tenthsOf_0 0 rfl ?_
  refine V_iload_n eX7_tenthsOf_1 1 rfl ?_
  refine V_iconst (v := (0 : Int32)) eX7_tenthsOf_2 rfl ?_
  obtain ⟨q1, hc1, h⟩ := Option.bind_eq_some_iff.mp h
  refine V_callVi (rest := []) eX7_tenthsOf_3 (ctX7_rides l G A c p1 (0 : Int32) hc1) tc_838 tw_835 tw_8 tw_837 ts_28 0 rfl rfl hdX7_rides rfl ⟨Nat.le_of_ble_eq_true rfl, Nat.le_of_ble_eq_true rfl⟩ rfl (Nat.le_of_ble_eq_true rfl) ⟨Nat.zero_le _, Nat.zero_le _⟩ ?_
  refine jn_elim h (fun j => ∀ (x2 : Int32), j x2 = some z → V l G (tg_Zm G (fun v w1 => v = some (.int z) ∧ w1 = wM G A c) 0 0) tg_E0 (tg_R 2 43) "TramGodModel" "tenthsOf" cX7_tenthsOf 4 (some .int) 17 [(0, .ref (A 0)), (1, .int p1), (2, .int p2), (3, .int p3)] [.int x2] (wM G A c) 0 0) ?_ (fun j17 hj17 h => ?_)
  · intro x2 h
    refine V_aload_n eX7_tenthsOf_17 0 rfl ?_
    refine V_iload_n eX7_tenthsOf_18 1 rfl ?_
    refine V_iload_n eX7_tenthsOf_19 2 rfl ?_
    obtain ⟨q3, hc3, h⟩ := Option.bind_eq_some_iff.mp h
    refine V_callVi (rest := [.int x2]) eX7_tenthsOf_20 (ctX7_rides l G A c p1 p2 hc3) tc_838 tw_835 tw_8 tw_837 ts_28 0 rfl rfl hdX7_rides rfl ⟨Nat.le_of_ble_eq_true rfl, Nat.le_of_ble_eq_true rfl⟩ rfl (Nat.le_of_ble_eq_true rfl) ⟨Nat.zero_le _, Nat.zero_le _⟩ ?_
    refine jn_elim h (fun j => ∀ (x4 : Int32), j x4 = some z → V l G (tg_Zm G (fun v w1 => v = some (.int z) ∧ w1 = wM G A c) 0 0) tg_E0 (tg_R 2 43) "TramGodModel" "tenthsOf" cX7_tenthsOf 4 (some .int) 31 [] [.int x4, .int x2] (wM G A c) 0 0) ?_ (fun j31 hj31 h => ?_)
    · intro x4 h
      refine V_iadd eX7_tenthsOf_31 ?_
      obtain rfl := Option.some.inj h
      exact V_ret eX7_tenthsOf_32 rfl ⟨rfl, rfl⟩
    refine V_if_eq (tgt := 30) eX7_tenthsOf_23 rfl (fun hb5 => ?_) (fun hb5 => ?_)
    · replace h := (if_pos hb5).symm.trans h
      refine V_iconst (v := (0 : Int32)) eX7_tenthsOf_30 rfl ?_
      refine V_lv (lv' := []) [] rfl ?_
      exact hj31 (0 : Int32) h
    · replace h := (if_neg hb5).symm.trans h
      refine V_iload_n eX7_tenthsOf_26 3 rfl ?_
      refine V_goto (tgt := 31) eX7_tenthsOf_27 rfl ?_
      refine V_lv (lv' := []) [] rfl ?_
      exact hj31 p3 h
  refine V_if_eq (tgt := 16) eX7_tenthsOf_6 rfl (fun hb6 => ?_) (fun hb6 => ?_)
  · replace h := (if_pos hb6).symm.trans h
    refine V_iconst (v := (0 : Int32)) eX7_tenthsOf_16 rfl ?_
    exact hj17 (0 : Int32) h
  · replace h := (if_neg hb6).symm.trans h
    refine V_bipush (v := (10 : Int32)) eX7_tenthsOf_9 rfl ?_
    refine V_iload_n eX7_tenthsOf_11 3 rfl ?_
    refine V_isub eX7_tenthsOf_12 ?_
    refine V_goto (tgt := 17) eX7_tenthsOf_13 rfl ?_
    exact hj17 ((10 : Int32) - p3) h
theorem hdX7_lowest : yX7_lowest.cls ≠ "java/lang/invoke/MethodHandle" ∧ yX7_lowest.cls ≠ "java/lang/invoke/VarHandle" ∧ (parseMethodDescriptor yX7_lowest.desc).map (fun d => d.parameters.length) = some 3 := by decide +kernel
theorem eX7_lowest_0 : Dc cX7_lowest 0 (.lload_n 2) 1 1 := ⟨by decide +kernel, rfl⟩
theorem eX7_lowest_1 : Dc cX7_lowest 1 (.lstore 5) 2 3 := ⟨by decide +kernel, rfl⟩
theorem eX7_lowest_3 : Dc cX7_lowest 3 (.lload_n 0) 1 4 := ⟨by decide +kernel, rfl⟩
theorem eX7_lowest_4 : Dc cX7_lowest 4 (.lconst 0) 1 5 := ⟨by decide +kernel, rfl⟩
theorem eX7_lowest_5 : Dc cX7_lowest 5 (.lcmp) 1 6 := ⟨by decide +kernel, rfl⟩
theorem eX7_lowest_6 : Dc cX7_lowest 6 (.ifCond .ge 8) 3 9 := ⟨by decide +kernel, rfl⟩
theorem eX7_lowest_9 : Dc cX7_lowest 9 (.lload_n 0) 1 10 := ⟨by decide +kernel, rfl⟩
theorem eX7_lowest_10 : Dc cX7_lowest 10 (.lneg) 1 11 := ⟨by decide +kernel, rfl⟩
theorem eX7_lowest_11 : Dc cX7_lowest 11 (.goto 4) 3 14 := ⟨by decide +kernel, rfl⟩
theorem eX7_lowest_14 : Dc cX7_lowest 14 (.lload_n 0) 1 15 := ⟨by decide +kernel, rfl⟩
theorem eX7_lowest_15 : Dc cX7_lowest 15 (.lstore 7) 2 17 := ⟨by decide +kernel, rfl⟩
theorem eX7_lowest_17 : Dc cX7_lowest 17 (.lload 7) 2 19 := ⟨by decide +kernel, rfl⟩
theorem eX7_lowest_19 : Dc cX7_lowest 19 (.lconst 0) 1 20 := ⟨by decide +kernel, rfl⟩
theorem eX7_lowest_20 : Dc cX7_lowest 20 (.lcmp) 1 21 := ⟨by decide +kernel, rfl⟩
theorem eX7_lowest_21 : Dc cX7_lowest 21 (.ifCond .eq 21) 3 24 := ⟨by decide +kernel, rfl⟩
theorem eX7_lowest_24 : Dc cX7_lowest 24 (.lload 5) 2 26 := ⟨by decide +kernel, rfl⟩
theorem eX7_lowest_26 : Dc cX7_lowest 26 (.lload 7) 2 28 := ⟨by decide +kernel, rfl⟩
theorem eX7_lowest_28 : Dc cX7_lowest 28 (.lrem) 1 29 := ⟨by decide +kernel, rfl⟩
theorem eX7_lowest_29 : Dc cX7_lowest 29 (.lstore 9) 2 31 := ⟨by decide +kernel, rfl⟩
theorem eX7_lowest_31 : Dc cX7_lowest 31 (.lload 7) 2 33 := ⟨by decide +kernel, rfl⟩
theorem eX7_lowest_33 : Dc cX7_lowest 33 (.lstore 5) 2 35 := ⟨by decide +kernel, rfl⟩
theorem eX7_lowest_35 : Dc cX7_lowest 35 (.lload 9) 2 37 := ⟨by decide +kernel, rfl⟩
theorem eX7_lowest_37 : Dc cX7_lowest 37 (.lstore 7) 2 39 := ⟨by decide +kernel, rfl⟩
theorem eX7_lowest_39 : Dc cX7_lowest 39 (.goto (-22)) 3 42 := ⟨by decide +kernel, rfl⟩
theorem eX7_lowest_42 : Dc cX7_lowest 42 (.iload 4) 2 44 := ⟨by decide +kernel, rfl⟩
theorem eX7_lowest_44 : Dc cX7_lowest 44 (.ifCond .ne 10) 3 47 := ⟨by decide +kernel, rfl⟩
theorem eX7_lowest_47 : Dc cX7_lowest 47 (.lload_n 0) 1 48 := ⟨by decide +kernel, rfl⟩
theorem eX7_lowest_48 : Dc cX7_lowest 48 (.lload 5) 2 50 := ⟨by decide +kernel, rfl⟩
theorem eX7_lowest_50 : Dc cX7_lowest 50 (.ldiv) 1 51 := ⟨by decide +kernel, rfl⟩
theorem eX7_lowest_51 : Dc cX7_lowest 51 (.goto 7) 3 54 := ⟨by decide +kernel, rfl⟩
theorem eX7_lowest_54 : Dc cX7_lowest 54 (.lload_n 2) 1 55 := ⟨by decide +kernel, rfl⟩
theorem eX7_lowest_55 : Dc cX7_lowest 55 (.lload 5) 2 57 := ⟨by decide +kernel, rfl⟩
theorem eX7_lowest_57 : Dc cX7_lowest 57 (.ldiv) 1 58 := ⟨by decide +kernel, rfl⟩
theorem eX7_lowest_58 : Dc cX7_lowest 58 (.lreturn) 1 59 := ⟨by decide +kernel, rfl⟩
def fX7_lowest_L17 (k : Int64 → Option (Int64)) (a0 : Int64) (a2 : Int64) (a4 : Int32) : Nat → Int64 → Int64 → Option (Int64)
  | 0, _, _ => none
  | n + 1, a5, a7 => if (lg_cmp a7 (0 : Int64)) = (0 : Int32) then k a5 else dvzl a7 (fX7_lowest_L17 k a0 a2 a4 n a7 (lrm a5 a7))
def fX7_lowest (p0 : Int64) (p2 : Int64) (p4 : Int32) : Option (Int64) := jn (fun (x1 : Int64) => fX7_lowest_L17 (fun (x4 : Int64) => if p4 = (0 : Int32) then dvzl x4 (some (p0 / x4)) else dvzl x4 (some (p2 / x4))) p0 p2 p4 fu p2 x1) (fun j15 => if (0 : Int32) ≤ (lg_cmp p0 (0 : Int64)) then j15 p0 else j15 (-p0))
set_option maxRecDepth 20000 in
theorem ctX7_lowest_L17 (l : Launch) (G : tg_G) (w : va_W) (k : Int64 → Option (Int64)) (a0 : Int64) (a2 : Int64) (a4 : Int32) {z : Int64} (hk : ∀ (e5 : Int64), k e5 = some z → V l G (tg_Zm G (fun v w1 => v = some (.long z) ∧ w1 = w) 0 0) tg_E0 (tg_R 0 0) "TramGodModel" "lowest" cX7_lowest 11 (some .long) 42 [(0, .long a0), (2, .long a2), (4, .int a4), (5, .long e5)] [] (w) 0 0) : ∀ (n : Nat) (a5 : Int64) (a7 : Int64), fX7_lowest_L17 k a0 a2 a4 n a5 a7 = some z → V l G (tg_Zm G (fun v w1 => v = some (.long z) ∧ w1 = w) 0 0) tg_E0 (tg_R 0 0) "TramGodModel" "lowest" cX7_lowest 11 (some .long) 17 [(0, .long a0), (2, .long a2), (4, .int a4), (5, .long a5), (7, .long a7)] [] (w) 0 0 := by
  intro n
  induction n with
  | zero => intro a5 a7 h; exact absurd h (by simp [fX7_lowest_L17])
  | succ n ih =>
    intro a5 a7 h
    unfold fX7_lowest_L17 at h
    refine V_lload eX7_lowest_17 4 rfl ?_
    refine V_lconst (v := (0 : Int64)) eX7_lowest_19 rfl ?_
    refine V_lcmp eX7_lowest_20 ?_
    refine V_if_eq (tgt := 42) eX7_lowest_21 rfl (fun hb2 => ?_) (fun hb2 => ?_)
    · replace h := (if_pos hb2).symm.trans h
      refine V_lv (lv' := [(0, .long a0), (2, .long a2), (4, .int a4), (5, .long a5)]) [0, 1, 2, 3] rfl ?_
      exact hk a5 h
    · replace h := (if_neg hb2).symm.trans h
      refine V_lload eX7_lowest_24 3 rfl ?_
      refine V_lload eX7_lowest_26 4 rfl ?_
      obtain ⟨hz3, h⟩ := dvzl_some h
      refine V_lrem eX7_lowest_28 hz3 ?_
      refine V_lstore (lv' := [(9, .long (lrm a5 a7)), (0, .long a0), (2, .long a2), (4, .int a4), (5, .long a5), (7, .long a7)]) eX7_lowest_29 (Nat.le_of_ble_eq_true rfl) rfl ?_
      refine V_lload eX7_lowest_31 5 rfl ?_
      refine V_lstore (lv' := [(5, .long a7), (9, .long (lrm a5 a7)), (0, .long a0), (2, .long a2), (4, .int a4), (7, .long a7)]) eX7_lowest_33 (Nat.le_of_ble_eq_true rfl) rfl ?_
      refine V_lload eX7_lowest_35 1 rfl ?_
      refine V_lstore (lv' := [(7, .long (lrm a5 a7)), (5, .long a7), (9, .long (lrm a5 a7)), (0, .long a0), (2, .long a2), (4, .int a4)]) eX7_lowest_37 (Nat.le_of_ble_eq_true rfl) rfl ?_
      refine V_goto (tgt := 17) eX7_lowest_39 rfl ?_
      refine V_lv (lv' := [(0, .long a0), (2, .long a2), (4, .int a4), (5, .long a7), (7, .long (lrm a5 a7))]) [3, 4, 5, 1, 0] rfl ?_
      exact ih a7 (lrm a5 a7) h
set_option maxRecDepth 20000 in
theorem ctX7_lowest (l : Launch) (G : tg_G) (w : va_W) (p0 : Int64) (p2 : Int64) (p4 : Int32) {z : Int64} (h : fX7_lowest p0 p2 p4 = some z) : Mt l G yX7_lowest cX7_lowest 11 (some .long) (tg_R 0 0) [.long p0, .long p2, .int p4] (w) (fun v w1 => v = some (.long z) ∧ w1 = w) := by
  refine Mt_of2 (own := "TramGodModel") (nm := "lowest") rfl rfl rfl (Nat.le_of_ble_eq_true rfl) (lv := [(0, .long p0), (2, .long p2), (4, .int p4)]) rfl ?_
  unfold fX7_lowest at h
  refine V_lload_n eX7_lowest_0 1 rfl ?_
  refine V_lstore (lv' := [(5, .long p2), (0, .long p0), (2, .long p2), (4, .int p4)]) eX7_lowest_1 (Nat.le_of_ble_eq_true rfl) rfl ?_
  refine V_lload_n eX7_lowest_3 1 rfl ?_
  refine V_lconst (v := (0 : Int64)) eX7_lowest_4 rfl ?_
  refine V_lcmp eX7_lowest_5 ?_
  refine jn_elim h (fun j => ∀ (x1 : Int64), j x1 = some z → V l G (tg_Zm G (fun v w1 => v = some (.long z) ∧ w1 = w) 0 0) tg_E0 (tg_R 0 0) "TramGodModel" "lowest" cX7_lowest 11 (some .long) 15 [(0, .long p0), (2, .long p2), (4, .int p4), (5, .long p2)] [.long x1] (w) 0 0) ?_ (fun j15 hj15 h => ?_)
  · intro x1 h
    refine V_lstore (lv' := [(7, .long x1), (0, .long p0), (2, .long p2), (4, .int p4), (5, .long p2)]) eX7_lowest_15 (Nat.le_of_ble_eq_true rfl) rfl ?_
    refine V_lv (lv' := [(0, .long p0), (2, .long p2), (4, .int p4), (5, .long p2), (7, .long x1)]) [1, 2, 3, 4, 0] rfl ?_
    refine ctX7_lowest_L17 l G _ _ p0 p2 p4 ?_ fu p2 x1 h
    · intro x4 h
      refine V_iload eX7_lowest_42 2 rfl ?_
      refine V_if_ne (tgt := 54) eX7_lowest_44 rfl (fun hb5 => ?_) (fun hb5 => ?_)
      · replace h := (if_neg hb5).symm.trans h
        refine V_lload_n eX7_lowest_54 1 rfl ?_
        refine V_lload eX7_lowest_55 3 rfl ?_
        obtain ⟨hz6, h⟩ := dvzl_some h
        refine V_ldiv eX7_lowest_57 hz6 ?_
        obtain rfl := Option.some.inj h
        exact V_lret eX7_lowest_58 rfl ⟨rfl, rfl⟩
      · replace h := (if_pos hb5).symm.trans h
        refine V_lload_n eX7_lowest_47 0 rfl ?_
        refine V_lload eX7_lowest_48 3 rfl ?_
        obtain ⟨hz7, h⟩ := dvzl_some h
        refine V_ldiv eX7_lowest_50 hz7 ?_
        refine V_goto (tgt := 58) eX7_lowest_51 rfl ?_
        obtain rfl := Option.some.inj h
        exact V_lret eX7_lowest_58 rfl ⟨rfl, rfl⟩
  refine V_if_ge (tgt := 14) eX7_lowest_6 rfl (fun hb8 => ?_) (fun hb8 => ?_)
  · replace h := (if_pos hb8).symm.trans h
    refine V_lload_n eX7_lowest_14 1 rfl ?_
    refine V_lv (lv' := [(0, .long p0), (2, .long p2), (4, .int p4), (5, .long p2)]) [1, 2, 3, 0] rfl ?_
    exact hj15 p0 h
  · replace h := (if_neg hb8).symm.trans h
    refine V_lload_n eX7_lowest_9 1 rfl ?_
    refine V_lneg eX7_lowest_10 ?_
    refine V_goto (tgt := 15) eX7_lowest_11 rfl ?_
    refine V_lv (lv' := [(0, .long p0), (2, .long p2), (4, .int p4), (5, .long p2)]) [1, 2, 3, 0] rfl ?_
    exact hj15 (-p0) h
theorem hdX7_runs : yX7_runs.cls ≠ "java/lang/invoke/MethodHandle" ∧ yX7_runs.cls ≠ "java/lang/invoke/VarHandle" ∧ (parseMethodDescriptor yX7_runs.desc).map (fun d => d.parameters.length) = some 4 := by decide +kernel
theorem eX7_runs_0 : Dc cX7_runs 0 (.aload_n 0) 1 1 := ⟨by decide +kernel, rfl⟩
theorem eX7_runs_1 : Dc cX7_runs 1 (.iload_n 1) 1 2 := ⟨by decide +kernel, rfl⟩
theorem eX7_runs_2 : Dc cX7_runs 2 (.invokevirtual 126) 3 5 := ⟨by decide +kernel, rfl⟩
theorem eX7_runs_5 : Dc cX7_runs 5 (.ifCond .ne 7) 3 8 := ⟨by decide +kernel, rfl⟩
theorem eX7_runs_8 : Dc cX7_runs 8 (.ldc2_w 233) 3 11 := ⟨by decide +kernel, rfl⟩
theorem eX7_runs_11 : Dc cX7_runs 11 (.lreturn) 1 12 := ⟨by decide +kernel, rfl⟩
theorem eX7_runs_12 : Dc cX7_runs 12 (.iload_n 2) 1 13 := ⟨by decide +kernel, rfl⟩
theorem eX7_runs_13 : Dc cX7_runs 13 (.iload_n 3) 1 14 := ⟨by decide +kernel, rfl⟩
theorem eX7_runs_14 : Dc cX7_runs 14 (.invokestatic 235) 3 17 := ⟨by decide +kernel, rfl⟩
theorem eX7_runs_17 : Dc cX7_runs 17 (.ifCond .eq 14) 3 20 := ⟨by decide +kernel, rfl⟩
theorem eX7_runs_20 : Dc cX7_runs 20 (.iload 4) 2 22 := ⟨by decide +kernel, rfl⟩
theorem eX7_runs_22 : Dc cX7_runs 22 (.i2l) 1 23 := ⟨by decide +kernel, rfl⟩
theorem eX7_runs_23 : Dc cX7_runs 23 (.lconst 0) 1 24 := ⟨by decide +kernel, rfl⟩
theorem eX7_runs_24 : Dc cX7_runs 24 (.lconst 1) 1 25 := ⟨by decide +kernel, rfl⟩
theorem eX7_runs_25 : Dc cX7_runs 25 (.invokestatic 79) 3 28 := ⟨by decide +kernel, rfl⟩
theorem eX7_runs_28 : Dc cX7_runs 28 (.ifCond .ne 7) 3 31 := ⟨by decide +kernel, rfl⟩
theorem eX7_runs_31 : Dc cX7_runs 31 (.ldc2_w 238) 3 34 := ⟨by decide +kernel, rfl⟩
theorem eX7_runs_34 : Dc cX7_runs 34 (.lreturn) 1 35 := ⟨by decide +kernel, rfl⟩
theorem eX7_runs_35 : Dc cX7_runs 35 (.aload_n 0) 1 36 := ⟨by decide +kernel, rfl⟩
theorem eX7_runs_36 : Dc cX7_runs 36 (.invokevirtual 153) 3 39 := ⟨by decide +kernel, rfl⟩
theorem eX7_runs_39 : Dc cX7_runs 39 (.ifCond .eq 7) 3 42 := ⟨by decide +kernel, rfl⟩
theorem eX7_runs_42 : Dc cX7_runs 42 (.ldc2_w 240) 3 45 := ⟨by decide +kernel, rfl⟩
theorem eX7_runs_45 : Dc cX7_runs 45 (.lreturn) 1 46 := ⟨by decide +kernel, rfl⟩
theorem eX7_runs_46 : Dc cX7_runs 46 (.aload_n 0) 1 47 := ⟨by decide +kernel, rfl⟩
theorem eX7_runs_47 : Dc cX7_runs 47 (.invokevirtual 134) 3 50 := ⟨by decide +kernel, rfl⟩
theorem eX7_runs_50 : Dc cX7_runs 50 (.aload_n 0) 1 51 := ⟨by decide +kernel, rfl⟩
theorem eX7_runs_51 : Dc cX7_runs 51 (.iload_n 1) 1 52 := ⟨by decide +kernel, rfl⟩
theorem eX7_runs_52 : Dc cX7_runs 52 (.iload_n 2) 1 53 := ⟨by decide +kernel, rfl⟩
theorem eX7_runs_53 : Dc cX7_runs 53 (.iload_n 3) 1 54 := ⟨by decide +kernel, rfl⟩
theorem eX7_runs_54 : Dc cX7_runs 54 (.invokevirtual 242) 3 57 := ⟨by decide +kernel, rfl⟩
theorem eX7_runs_57 : Dc cX7_runs 57 (.i2l) 1 58 := ⟨by decide +kernel, rfl⟩
theorem eX7_runs_58 : Dc cX7_runs 58 (.ldc2_w 231) 3 61 := ⟨by decide +kernel, rfl⟩
theorem eX7_runs_61 : Dc cX7_runs 61 (.iload 4) 2 63 := ⟨by decide +kernel, rfl⟩
theorem eX7_runs_63 : Dc cX7_runs 63 (.invokestatic 246) 3 66 := ⟨by decide +kernel, rfl⟩
theorem eX7_runs_66 : Dc cX7_runs 66 (.lreturn) 1 67 := ⟨by decide +kernel, rfl⟩
def fX7_runs (c : SS) (p1 : Int32) (p2 : Int32) (p3 : Int32) (p4 : Int32) : Option (Int64 × SS) := if (fX7_isThere c p1) = (0 : Int32) then some ((-1000000000000000001 : Int64), c) else if (fX7_isRunning p2 p3) = (0 : Int32) then some ((-1000000000000000002 : Int64), c) else if (fX7_in (p4).toInt64 (0 : Int64) (1 : Int64)) = (0 : Int32) then some ((-1000000000000000002 : Int64), c) else Option.bind (fX7_isRefused c) (fun q4 => if q4.1 = (0 : Int32) then Option.bind (fX7_findLeaves q4.2) (fun q6 => Option.bind (fX7_tenthsOf q6 p1 p2 p3) (fun q7 => Option.bind (fX7_lowest (q7).toInt64 (10 : Int64) p4) (fun q8 => some (q8, q6)))) else some ((-1000000000000000005 : Int64), q4.2))
set_option maxRecDepth 20000 in
theorem ctX7_runs (l : Launch) (G : tg_G) (A : Nat → Nat) (c : SS) (p1 : Int32) (p2 : Int32) (p3 : Int32) (p4 : Int32) {z : Int64 × SS} (h : fX7_runs c p1 p2 p3 p4 = some z) : Mt l G yX7_runs cX7_runs 5 (some .long) (tg_R 4 89) [.ref (A 0), .int p1, .int p2, .int p3, .int p4] (wM G A c) (fun v w1 => v = some (.long z.1) ∧ w1 = wM G A z.2) := by
  refine Mt_of2 (own := "TramGodModel") (nm := "runs") rfl rfl rfl (Nat.le_of_ble_eq_true rfl) (lv := [(0, .ref (A 0)), (1, .int p1), (2, .int p2), (3, .int p3), (4, .int p4)]) rfl ?_
  unfold fX7_runs at h
  refine V_aload_n eX7_runs_0 0 rfl ?_
  refine V_iload_n eX7_runs_1 1 rfl ?_
  refine V_callVi (rest := []) eX7_runs_2 (ctX7_isThere l G A c p1 rfl) tc_796 tw_793 tw_8 tw_795 ts_22 0 rfl rfl hdX7_isThere rfl ⟨Nat.le_of_ble_eq_true rfl, Nat.le_of_ble_eq_true rfl⟩ rfl (Nat.le_of_ble_eq_true rfl) ⟨Nat.zero_le _, Nat.zero_le _⟩ ?_
  refine V_if_ne (tgt := 12) eX7_runs_5 rfl (fun hb1 => ?_) (fun hb1 => ?_)
  · replace h := (if_neg hb1).symm.trans h
    refine V_iload_n eX7_runs_12 2 rfl ?_
    refine V_iload_n eX7_runs_13 3 rfl ?_
    refine V_callSi (rest := []) eX7_runs_14 (ctX7_isRunning l G _ p2 p3 rfl) tc_972 tw_970 tw_8 tw_971 hdX7_isRunning rfl ⟨Nat.le_of_ble_eq_true rfl, Nat.le_of_ble_eq_true rfl⟩ rfl (Nat.le_of_ble_eq_true rfl) ⟨Nat.zero_le _, Nat.zero_le _⟩ ?_
    refine V_if_eq (tgt := 31) eX7_runs_17 rfl (fun hb2 => ?_) (fun hb2 => ?_)
    · replace h := (if_pos hb2).symm.trans h
      refine V_ldc2 eX7_runs_31 tw_975 ?_
      obtain rfl := Option.some.inj h
      exact V_lret eX7_runs_34 rfl ⟨rfl, rfl⟩
    · replace h := (if_neg hb2).symm.trans h
      refine V_iload eX7_runs_20 4 rfl ?_
      refine V_i2l eX7_runs_22 ?_
      refine V_lconst (v := (0 : Int64)) eX7_runs_23 rfl ?_
      refine V_lconst (v := (1 : Int64)) eX7_runs_24 rfl ?_
      refine V_callSi (rest := []) eX7_runs_25 (ctX7_in l G _ (p4).toInt64 (0 : Int64) (1 : Int64) rfl) tc_748 tw_746 tw_8 tw_747 hdX7_in rfl ⟨Nat.le_of_ble_eq_true rfl, Nat.le_of_ble_eq_true rfl⟩ rfl (Nat.le_of_ble_eq_true rfl) ⟨Nat.zero_le _, Nat.zero_le _⟩ ?_
      refine V_if_ne (tgt := 35) eX7_runs_28 rfl (fun hb3 => ?_) (fun hb3 => ?_)
      · replace h := (if_neg hb3).symm.trans h
        refine V_aload_n eX7_runs_35 0 rfl ?_
        obtain ⟨q4, hc4, h⟩ := Option.bind_eq_some_iff.mp h
        refine V_callVi (rest := []) eX7_runs_36 (ctX7_isRefused l G A c hc4) tc_826 tw_823 tw_8 tw_825 ts_25 0 rfl rfl hdX7_isRefused rfl ⟨Nat.le_of_ble_eq_true rfl, Nat.le_of_ble_eq_true rfl⟩ rfl (Nat.le_of_ble_eq_true rfl) ⟨Nat.zero_le _, Nat.zero_le _⟩ ?_
        refine V_if_eq (tgt := 46) eX7_runs_39 rfl (fun hb5 => ?_) (fun hb5 => ?_)
        · replace h := (if_pos hb5).symm.trans h
          refine V_aload_n eX7_runs_46 0 rfl ?_
          obtain ⟨q6, hc6, h⟩ := Option.bind_eq_some_iff.mp h
          refine V_callVv (rest := []) eX7_runs_47 (ctX7_findLeaves l G A q4.2 hc6) tc_834 tw_831 tw_8 tw_833 ts_27 0 rfl rfl hdX7_findLeaves rfl ⟨Nat.le_of_ble_eq_true rfl, Nat.le_of_ble_eq_true rfl⟩ rfl (Nat.le_of_ble_eq_true rfl) ⟨Nat.zero_le _, Nat.zero_le _⟩ ?_
          refine V_aload_n eX7_runs_50 0 rfl ?_
          refine V_iload_n eX7_runs_51 1 rfl ?_
          refine V_iload_n eX7_runs_52 2 rfl ?_
          refine V_iload_n eX7_runs_53 3 rfl ?_
          obtain ⟨q7, hc7, h⟩ := Option.bind_eq_some_iff.mp h
          refine V_callVi (rest := []) eX7_runs_54 (ctX7_tenthsOf l G A q6 p1 p2 p3 hc7) tc_980 tw_977 tw_8 tw_979 ts_45 0 rfl rfl hdX7_tenthsOf rfl ⟨Nat.le_of_ble_eq_true rfl, Nat.le_of_ble_eq_true rfl⟩ rfl (Nat.le_of_ble_eq_true rfl) ⟨Nat.zero_le _, Nat.zero_le _⟩ ?_
          refine V_i2l eX7_runs_57 ?_
          refine V_ldc2 eX7_runs_58 tw_974 ?_
          refine V_iload eX7_runs_61 4 rfl ?_
          obtain ⟨q8, hc8, h⟩ := Option.bind_eq_some_iff.mp h
          refine V_callSl (rest := []) eX7_runs_63 (ctX7_lowest l G _ (q7).toInt64 (10 : Int64) p4 hc8) tc_983 tw_981 tw_8 tw_982 hdX7_lowest rfl ⟨Nat.le_of_ble_eq_true rfl, Nat.le_of_ble_eq_true rfl⟩ rfl (Nat.le_of_ble_eq_true rfl) ⟨Nat.zero_le _, Nat.zero_le _⟩ ?_
          obtain rfl := Option.some.inj h
          exact V_lret eX7_runs_66 rfl ⟨rfl, rfl⟩
        · replace h := (if_neg hb5).symm.trans h
          refine V_ldc2 eX7_runs_42 tw_976 ?_
          obtain rfl := Option.some.inj h
          exact V_lret eX7_runs_45 rfl ⟨rfl, rfl⟩
      · replace h := (if_pos hb3).symm.trans h
        refine V_ldc2 eX7_runs_31 tw_975 ?_
        obtain rfl := Option.some.inj h
        exact V_lret eX7_runs_34 rfl ⟨rfl, rfl⟩
  · replace h := (if_pos hb1).symm.trans h
    refine V_ldc2 eX7_runs_8 tw_969 ?_
    obtain rfl := Option.some.inj h
    exact V_lret eX7_runs_11 rfl ⟨rfl, rfl⟩
theorem hdX7_mean : yX7_mean.cls ≠ "java/lang/invoke/MethodHandle" ∧ yX7_mean.cls ≠ "java/lang/invoke/VarHandle" ∧ (parseMethodDescriptor yX7_mean.desc).map (fun d => d.parameters.length) = some 3 := by decide +kernel
theorem eX7_mean_0 : Dc cX7_mean 0 (.iload_n 1) 1 1 := ⟨by decide +kernel, rfl⟩
theorem eX7_mean_1 : Dc cX7_mean 1 (.iload_n 2) 1 2 := ⟨by decide +kernel, rfl⟩
theorem eX7_mean_2 : Dc cX7_mean 2 (.invokestatic 235) 3 5 := ⟨by decide +kernel, rfl⟩
theorem eX7_mean_5 : Dc cX7_mean 5 (.ifCond .eq 13) 3 8 := ⟨by decide +kernel, rfl⟩
theorem eX7_mean_8 : Dc cX7_mean 8 (.iload_n 3) 1 9 := ⟨by decide +kernel, rfl⟩
theorem eX7_mean_9 : Dc cX7_mean 9 (.i2l) 1 10 := ⟨by decide +kernel, rfl⟩
theorem eX7_mean_10 : Dc cX7_mean 10 (.lconst 0) 1 11 := ⟨by decide +kernel, rfl⟩
theorem eX7_mean_11 : Dc cX7_mean 11 (.lconst 1) 1 12 := ⟨by decide +kernel, rfl⟩
theorem eX7_mean_12 : Dc cX7_mean 12 (.invokestatic 79) 3 15 := ⟨by decide +kernel, rfl⟩
theorem eX7_mean_15 : Dc cX7_mean 15 (.ifCond .ne 7) 3 18 := ⟨by decide +kernel, rfl⟩
theorem eX7_mean_18 : Dc cX7_mean 18 (.ldc2_w 238) 3 21 := ⟨by decide +kernel, rfl⟩
theorem eX7_mean_21 : Dc cX7_mean 21 (.lreturn) 1 22 := ⟨by decide +kernel, rfl⟩
theorem eX7_mean_22 : Dc cX7_mean 22 (.aload_n 0) 1 23 := ⟨by decide +kernel, rfl⟩
theorem eX7_mean_23 : Dc cX7_mean 23 (.invokevirtual 153) 3 26 := ⟨by decide +kernel, rfl⟩
theorem eX7_mean_26 : Dc cX7_mean 26 (.ifCond .eq 7) 3 29 := ⟨by decide +kernel, rfl⟩
theorem eX7_mean_29 : Dc cX7_mean 29 (.ldc2_w 240) 3 32 := ⟨by decide +kernel, rfl⟩
theorem eX7_mean_32 : Dc cX7_mean 32 (.lreturn) 1 33 := ⟨by decide +kernel, rfl⟩
theorem eX7_mean_33 : Dc cX7_mean 33 (.aload_n 0) 1 34 := ⟨by decide +kernel, rfl⟩
theorem eX7_mean_34 : Dc cX7_mean 34 (.invokevirtual 134) 3 37 := ⟨by decide +kernel, rfl⟩
theorem eX7_mean_37 : Dc cX7_mean 37 (.lconst 0) 1 38 := ⟨by decide +kernel, rfl⟩
theorem eX7_mean_38 : Dc cX7_mean 38 (.lstore 4) 2 40 := ⟨by decide +kernel, rfl⟩
theorem eX7_mean_40 : Dc cX7_mean 40 (.iconst 0) 1 41 := ⟨by decide +kernel, rfl⟩
theorem eX7_mean_41 : Dc cX7_mean 41 (.istore 6) 2 43 := ⟨by decide +kernel, rfl⟩
theorem eX7_mean_43 : Dc cX7_mean 43 (.iload 6) 2 45 := ⟨by decide +kernel, rfl⟩
theorem eX7_mean_45 : Dc cX7_mean 45 (.bipush 8) 2 47 := ⟨by decide +kernel, rfl⟩
theorem eX7_mean_47 : Dc cX7_mean 47 (.if_icmp .ge 62) 3 50 := ⟨by decide +kernel, rfl⟩
theorem eX7_mean_50 : Dc cX7_mean 50 (.aload_n 0) 1 51 := ⟨by decide +kernel, rfl⟩
theorem eX7_mean_51 : Dc cX7_mean 51 (.iload 6) 2 53 := ⟨by decide +kernel, rfl⟩
theorem eX7_mean_53 : Dc cX7_mean 53 (.iload_n 1) 1 54 := ⟨by decide +kernel, rfl⟩
theorem eX7_mean_54 : Dc cX7_mean 54 (.iload_n 2) 1 55 := ⟨by decide +kernel, rfl⟩
theorem eX7_mean_55 : Dc cX7_mean 55 (.invokevirtual 242) 3 58 := ⟨by decide +kernel, rfl⟩
theorem eX7_mean_58 : Dc cX7_mean 58 (.istore 7) 2 60 := ⟨by decide +kernel, rfl⟩
theorem eX7_mean_60 : Dc cX7_mean 60 (.lload 4) 2 62 := ⟨by decide +kernel, rfl⟩
theorem eX7_mean_62 : Dc cX7_mean 62 (.aload_n 0) 1 63 := ⟨by decide +kernel, rfl⟩
theorem eX7_mean_63 : Dc cX7_mean 63 (.iload 6) 2 65 := ⟨by decide +kernel, rfl⟩
theorem eX7_mean_65 : Dc cX7_mean 65 (.invokevirtual 126) 3 68 := ⟨by decide +kernel, rfl⟩
theorem eX7_mean_68 : Dc cX7_mean 68 (.ifCond .eq 31) 3 71 := ⟨by decide +kernel, rfl⟩
theorem eX7_mean_71 : Dc cX7_mean 71 (.iload 7) 2 73 := ⟨by decide +kernel, rfl⟩
theorem eX7_mean_73 : Dc cX7_mean 73 (.aload_n 0) 1 74 := ⟨by decide +kernel, rfl⟩
theorem eX7_mean_74 : Dc cX7_mean 74 (.getfield 19) 3 77 := ⟨by decide +kernel, rfl⟩
theorem eX7_mean_77 : Dc cX7_mean 77 (.iload 6) 2 79 := ⟨by decide +kernel, rfl⟩
theorem eX7_mean_79 : Dc cX7_mean 79 (.iaload) 1 80 := ⟨by decide +kernel, rfl⟩
theorem eX7_mean_80 : Dc cX7_mean 80 (.imul) 1 81 := ⟨by decide +kernel, rfl⟩
theorem eX7_mean_81 : Dc cX7_mean 81 (.bipush 10) 2 83 := ⟨by decide +kernel, rfl⟩
theorem eX7_mean_83 : Dc cX7_mean 83 (.iload 7) 2 85 := ⟨by decide +kernel, rfl⟩
theorem eX7_mean_85 : Dc cX7_mean 85 (.isub) 1 86 := ⟨by decide +kernel, rfl⟩
theorem eX7_mean_86 : Dc cX7_mean 86 (.aload_n 0) 1 87 := ⟨by decide +kernel, rfl⟩
theorem eX7_mean_87 : Dc cX7_mean 87 (.getfield 22) 3 90 := ⟨by decide +kernel, rfl⟩
theorem eX7_mean_90 : Dc cX7_mean 90 (.iload 6) 2 92 := ⟨by decide +kernel, rfl⟩
theorem eX7_mean_92 : Dc cX7_mean 92 (.iaload) 1 93 := ⟨by decide +kernel, rfl⟩
theorem eX7_mean_93 : Dc cX7_mean 93 (.imul) 1 94 := ⟨by decide +kernel, rfl⟩
theorem eX7_mean_94 : Dc cX7_mean 94 (.iadd) 1 95 := ⟨by decide +kernel, rfl⟩
theorem eX7_mean_95 : Dc cX7_mean 95 (.i2l) 1 96 := ⟨by decide +kernel, rfl⟩
theorem eX7_mean_96 : Dc cX7_mean 96 (.goto 4) 3 99 := ⟨by decide +kernel, rfl⟩
theorem eX7_mean_99 : Dc cX7_mean 99 (.lconst 0) 1 100 := ⟨by decide +kernel, rfl⟩
theorem eX7_mean_100 : Dc cX7_mean 100 (.ladd) 1 101 := ⟨by decide +kernel, rfl⟩
theorem eX7_mean_101 : Dc cX7_mean 101 (.lstore 4) 2 103 := ⟨by decide +kernel, rfl⟩
theorem eX7_mean_103 : Dc cX7_mean 103 (.iinc 6 1) 3 106 := ⟨by decide +kernel, rfl⟩
theorem eX7_mean_106 : Dc cX7_mean 106 (.goto (-63)) 3 109 := ⟨by decide +kernel, rfl⟩
theorem eX7_mean_109 : Dc cX7_mean 109 (.lload 4) 2 111 := ⟨by decide +kernel, rfl⟩
theorem eX7_mean_111 : Dc cX7_mean 111 (.ldc2_w 231) 3 114 := ⟨by decide +kernel, rfl⟩
theorem eX7_mean_114 : Dc cX7_mean 114 (.iload_n 3) 1 115 := ⟨by decide +kernel, rfl⟩
theorem eX7_mean_115 : Dc cX7_mean 115 (.invokestatic 246) 3 118 := ⟨by decide +kernel, rfl⟩
theorem eX7_mean_118 : Dc cX7_mean 118 (.lreturn) 1 119 := ⟨by decide +kernel, rfl⟩
def fX7_mean_L43 (k : Int64 → Option (Int64 × SS)) (c : SS) (a1 : Int32) (a2 : Int32) (a3 : Int32) : Nat → Int64 → Int32 → Option (Int64 × SS)
  | 0, _, _ => none
  | n + 1, a4, a6 => if (8 : Int32) ≤ a6 then k a4 else Option.bind (fX7_tenthsOf c a6 a1 a2) (fun q7 => jn (fun (x8 : Int64) => fX7_mean_L43 k c a1 a2 a3 n (a4 + x8) (a6 + (1 : Int32))) (fun j100 => if (fX7_isThere c a6) = (0 : Int32) then j100 (0 : Int64) else ald 8 (c.2 6) a6 (fun v10 => ald 8 (c.2 7) a6 (fun v11 => j100 (((q7 * v10) + (((10 : Int32) - q7) * v11))).toInt64))))
def fX7_mean (c : SS) (p1 : Int32) (p2 : Int32) (p3 : Int32) : Option (Int64 × SS) := if (fX7_isRunning p1 p2) = (0 : Int32) then some ((-1000000000000000002 : Int64), c) else if (fX7_in (p3).toInt64 (0 : Int64) (1 : Int64)) = (0 : Int32) then some ((-1000000000000000002 : Int64), c) else Option.bind (fX7_isRefused c) (fun q3 => if q3.1 = (0 : Int32) then Option.bind (fX7_findLeaves q3.2) (fun q5 => fX7_mean_L43 (fun (x12 : Int64) => Option.bind (fX7_lowest x12 (10 : Int64) p3) (fun q13 => some (q13, q5))) q5 p1 p2 p3 fu (0 : Int64) (0 : Int32)) else some ((-1000000000000000005 : Int64), q3.2))
set_option maxRecDepth 20000 in
theorem ctX7_mean_L43 (l : Launch) (G : tg_G) (A : Nat → Nat) (k : Int64 → Option (Int64 × SS)) (c : SS) (a1 : Int32) (a2 : Int32) (a3 : Int32) {z : Int64 × SS} (hk : ∀ (e4 : Int64), k e4 = some z → V l G (tg_Zm G (fun v w1 => v = some (.long z.1) ∧ w1 = wM G A z.2) 0 0) tg_E0 (tg_R 4 89) "TramGodModel" "mean" cX7_mean 8 (some .long) 109 [(3, .int a3), (4, .long e4)] [] (wM G A c) 0 0) : ∀ (n : Nat) (a4 : Int64) (a6 : Int32), fX7_mean_L43 k c a1 a2 a3 n a4 a6 = some z → V l G (tg_Zm G (fun v w1 => v = some (.long z.1) ∧ w1 = wM G A z.2) 0 0) tg_E0 (tg_R 4 89) "TramGodModel" "mean" cX7_mean 8 (some .long) 43 [(0, .ref (A 0)), (1, .int a1), (2, .int a2), (3, .int a3), (4, .long a4), (6, .int a6)] [] (wM G A c) 0 0 := by
  intro n
  induction n with
  | zero => intro a4 a6 h; exact absurd h (by simp [fX7_mean_L43])
  | succ n ih =>
    intro a4 a6 h
    unfold fX7_mean_L43 at h
    refine V_iload eX7_mean_43 5 rfl ?_
    refine V_bipush (v := (8 : Int32)) eX7_mean_45 rfl ?_
    refine V_icmp_ge (tgt := 109) eX7_mean_47 rfl (fun hb6 => ?_) (fun hb6 => ?_)
    · replace h := (if_pos hb6).symm.trans h
      refine V_lv (lv' := [(3, .int a3), (4, .long a4)]) [3, 4] rfl ?_
      exact hk a4 h
    · replace h := (if_neg hb6).symm.trans h
      refine V_aload_n eX7_mean_50 0 rfl ?_
      refine V_iload eX7_mean_51 5 rfl ?_
      refine V_iload_n eX7_mean_53 1 rfl ?_
      refine V_iload_n eX7_mean_54 2 rfl ?_
      obtain ⟨q7, hc7, h⟩ := Option.bind_eq_some_iff.mp h
      refine V_callVi (rest := []) eX7_mean_55 (ctX7_tenthsOf l G A c a6 a1 a2 hc7) tc_980 tw_977 tw_8 tw_979 ts_45 0 rfl rfl hdX7_tenthsOf rfl ⟨Nat.le_of_ble_eq_true rfl, Nat.le_of_ble_eq_true rfl⟩ rfl (Nat.le_of_ble_eq_true rfl) ⟨Nat.zero_le _, Nat.zero_le _⟩ ?_
      refine V_istore (lv' := [(7, .int q7), (0, .ref (A 0)), (1, .int a1), (2, .int a2), (3, .int a3), (4, .long a4), (6, .int a6)]) eX7_mean_58 (Nat.le_of_ble_eq_true rfl) rfl ?_
      refine V_lload eX7_mean_60 5 rfl ?_
      refine V_aload_n eX7_mean_62 1 rfl ?_
      refine V_iload eX7_mean_63 6 rfl ?_
      refine V_callVi (rest := [.long a4]) eX7_mean_65 (ctX7_isThere l G A c a6 rfl) tc_796 tw_793 tw_8 tw_795 ts_22 0 rfl rfl hdX7_isThere rfl ⟨Nat.le_of_ble_eq_true rfl, Nat.le_of_ble_eq_true rfl⟩ rfl (Nat.le_of_ble_eq_true rfl) ⟨Nat.zero_le _, Nat.zero_le _⟩ ?_
      refine jn_elim h (fun j => ∀ (x8 : Int64), j x8 = some z → V l G (tg_Zm G (fun v w1 => v = some (.long z.1) ∧ w1 = wM G A z.2) 0 0) tg_E0 (tg_R 4 89) "TramGodModel" "mean" cX7_mean 8 (some .long) 100 [(0, .ref (A 0)), (1, .int a1), (2, .int a2), (3, .int a3), (6, .int a6)] [.long x8, .long a4] (wM G A c) 0 0) ?_ (fun j100 hj100 h => ?_)
      · intro x8 h
        refine V_ladd eX7_mean_100 ?_
        refine V_lstore (lv' := [(4, .long (a4 + x8)), (0, .ref (A 0)), (1, .int a1), (2, .int a2), (3, .int a3), (6, .int a6)]) eX7_mean_101 (Nat.le_of_ble_eq_true rfl) rfl ?_
        refine V_iinc (v := (a6 + (1 : Int32))) (lv' := [(6, .int (a6 + (1 : Int32))), (4, .long (a4 + x8)), (0, .ref (A 0)), (1, .int a1), (2, .int a2), (3, .int a3)]) eX7_mean_103 5 rfl rfl (Nat.le_of_ble_eq_true rfl) rfl ?_
        refine V_goto (tgt := 43) eX7_mean_106 rfl ?_
        refine V_lv (lv' := [(0, .ref (A 0)), (1, .int a1), (2, .int a2), (3, .int a3), (4, .long (a4 + x8)), (6, .int (a6 + (1 : Int32)))]) [2, 3, 4, 5, 1, 0] rfl ?_
        exact ih (a4 + x8) (a6 + (1 : Int32)) h
      refine V_if_eq (tgt := 99) eX7_mean_68 rfl (fun hb9 => ?_) (fun hb9 => ?_)
      · replace h := (if_pos hb9).symm.trans h
        refine V_lconst (v := (0 : Int64)) eX7_mean_99 rfl ?_
        refine V_lv (lv' := [(0, .ref (A 0)), (1, .int a1), (2, .int a2), (3, .int a3), (6, .int a6)]) [1, 2, 3, 4, 6] rfl ?_
        exact hj100 (0 : Int64) h
      · replace h := (if_neg hb9).symm.trans h
        refine V_iload eX7_mean_71 0 rfl ?_
        refine V_aload_n eX7_mean_73 1 rfl ?_
        refine V_get (v := .ref (A 4)) eX7_mean_74 inX7 0 rfl rfl 6 (Nat.le_of_ble_eq_true rfl) tw_651 rfl ?_
        refine V_iload eX7_mean_77 6 rfl ?_
        obtain ⟨v10, hi10, ev10, h⟩ := ald_some h
        refine V_ialdv eX7_mean_79 4 rfl hi10 ev10 ?_
        refine V_imul eX7_mean_80 ?_
        refine V_bipush (v := (10 : Int32)) eX7_mean_81 rfl ?_
        refine V_iload eX7_mean_83 0 rfl ?_
        refine V_isub eX7_mean_85 ?_
        refine V_aload_n eX7_mean_86 1 rfl ?_
        refine V_get (v := .ref (A 5)) eX7_mean_87 inX7 0 rfl rfl 7 (Nat.le_of_ble_eq_true rfl) tw_652 rfl ?_
        refine V_iload eX7_mean_90 6 rfl ?_
        obtain ⟨v11, hi11, ev11, h⟩ := ald_some h
        refine V_ialdv eX7_mean_92 5 rfl hi11 ev11 ?_
        refine V_imul eX7_mean_93 ?_
        refine V_iadd eX7_mean_94 ?_
        refine V_i2l eX7_mean_95 ?_
        refine V_goto (tgt := 100) eX7_mean_96 rfl ?_
        refine V_lv (lv' := [(0, .ref (A 0)), (1, .int a1), (2, .int a2), (3, .int a3), (6, .int a6)]) [1, 2, 3, 4, 6] rfl ?_
        exact hj100 (((q7 * v10) + (((10 : Int32) - q7) * v11))).toInt64 h
set_option maxRecDepth 20000 in
theorem ctX7_mean (l : Launch) (G : tg_G) (A : Nat → Nat) (c : SS) (p1 : Int32) (p2 : Int32) (p3 : Int32) {z : Int64 × SS} (h : fX7_mean c p1 p2 p3 = some z) : Mt l G yX7_mean cX7_mean 8 (some .long) (tg_R 4 89) [.ref (A 0), .int p1, .int p2, .int p3] (wM G A c) (fun v w1 => v = some (.long z.1) ∧ w1 = wM G A z.2) := by
  refine Mt_of2 (own := "TramGodModel") (nm := "mean") rfl rfl rfl (Nat.le_of_ble_eq_true rfl) (lv := [(0, .ref (A 0)), (1, .int p1), (2, .int p2), (3, .int p3)]) rfl ?_
  unfold fX7_mean at h
  refine V_iload_n eX7_mean_0 1 rfl ?_
  refine V_iload_n eX7_mean_1 2 rfl ?_
  refine V_callSi (rest := []) eX7_mean_2 (ctX7_isRunning l G _ p1 p2 rfl) tc_972 tw_970 tw_8 tw_971 hdX7_isRunning rfl ⟨Nat.le_of_ble_eq_true rfl, Nat.le_of_ble_eq_true rfl⟩ rfl (Nat.le_of_ble_eq_true rfl) ⟨Nat.zero_le _, Nat.zero_le _⟩ ?_
  refine V_if_eq (tgt := 18) eX7_mean_5 rfl (fun hb1 => ?_) (fun hb1 => ?_)
  · replace h := (if_pos hb1).symm.trans h
    refine V_ldc2 eX7_mean_18 tw_975 ?_
    obtain rfl := Option.some.inj h
    exact V_lret eX7_mean_21 rfl ⟨rfl, rfl⟩
  · replace h := (if_neg hb1).symm.trans h
    refine V_iload_n eX7_mean_8 3 rfl ?_
    refine V_i2l eX7_mean_9 ?_
    refine V_lconst (v := (0 : Int64)) eX7_mean_10 rfl ?_
    refine V_lconst (v := (1 : Int64)) eX7_mean_11 rfl ?_
    refine V_callSi (rest := []) eX7_mean_12 (ctX7_in l G _ (p3).toInt64 (0 : Int64) (1 : Int64) rfl) tc_748 tw_746 tw_8 tw_747 hdX7_in rfl ⟨Nat.le_of_ble_eq_true rfl, Nat.le_of_ble_eq_true rfl⟩ rfl (Nat.le_of_ble_eq_true rfl) ⟨Nat.zero_le _, Nat.zero_le _⟩ ?_
    refine V_if_ne (tgt := 22) eX7_mean_15 rfl (fun hb2 => ?_) (fun hb2 => ?_)
    · replace h := (if_neg hb2).symm.trans h
      refine V_aload_n eX7_mean_22 0 rfl ?_
      obtain ⟨q3, hc3, h⟩ := Option.bind_eq_some_iff.mp h
      refine V_callVi (rest := []) eX7_mean_23 (ctX7_isRefused l G A c hc3) tc_826 tw_823 tw_8 tw_825 ts_25 0 rfl rfl hdX7_isRefused rfl ⟨Nat.le_of_ble_eq_true rfl, Nat.le_of_ble_eq_true rfl⟩ rfl (Nat.le_of_ble_eq_true rfl) ⟨Nat.zero_le _, Nat.zero_le _⟩ ?_
      refine V_if_eq (tgt := 33) eX7_mean_26 rfl (fun hb4 => ?_) (fun hb4 => ?_)
      · replace h := (if_pos hb4).symm.trans h
        refine V_aload_n eX7_mean_33 0 rfl ?_
        obtain ⟨q5, hc5, h⟩ := Option.bind_eq_some_iff.mp h
        refine V_callVv (rest := []) eX7_mean_34 (ctX7_findLeaves l G A q3.2 hc5) tc_834 tw_831 tw_8 tw_833 ts_27 0 rfl rfl hdX7_findLeaves rfl ⟨Nat.le_of_ble_eq_true rfl, Nat.le_of_ble_eq_true rfl⟩ rfl (Nat.le_of_ble_eq_true rfl) ⟨Nat.zero_le _, Nat.zero_le _⟩ ?_
        refine V_lconst (v := (0 : Int64)) eX7_mean_37 rfl ?_
        refine V_lstore (lv' := [(4, .long (0 : Int64)), (0, .ref (A 0)), (1, .int p1), (2, .int p2), (3, .int p3)]) eX7_mean_38 (Nat.le_of_ble_eq_true rfl) rfl ?_
        refine V_iconst (v := (0 : Int32)) eX7_mean_40 rfl ?_
        refine V_istore (lv' := [(6, .int (0 : Int32)), (4, .long (0 : Int64)), (0, .ref (A 0)), (1, .int p1), (2, .int p2), (3, .int p3)]) eX7_mean_41 (Nat.le_of_ble_eq_true rfl) rfl ?_
        refine V_lv (lv' := [(0, .ref (A 0)), (1, .int p1), (2, .int p2), (3, .int p3), (4, .long (0 : Int64)), (6, .int (0 : Int32))]) [2, 3, 4, 5, 1, 0] rfl ?_
        refine ctX7_mean_L43 l G A _ q5 p1 p2 p3 ?_ fu (0 : Int64) (0 : Int32) h
        · intro x12 h
          refine V_lload eX7_mean_109 1 rfl ?_
          refine V_ldc2 eX7_mean_111 tw_974 ?_
          refine V_iload_n eX7_mean_114 0 rfl ?_
          obtain ⟨q13, hc13, h⟩ := Option.bind_eq_some_iff.mp h
          refine V_callSl (rest := []) eX7_mean_115 (ctX7_lowest l G _ x12 (10 : Int64) p3 hc13) tc_983 tw_981 tw_8 tw_982 hdX7_lowest rfl ⟨Nat.le_of_ble_eq_true rfl, Nat.le_of_ble_eq_true rfl⟩ rfl (Nat.le_of_ble_eq_true rfl) ⟨Nat.zero_le _, Nat.zero_le _⟩ ?_
          obtain rfl := Option.some.inj h
          exact V_lret eX7_mean_118 rfl ⟨rfl, rfl⟩
      · replace h := (if_neg hb4).symm.trans h
        refine V_ldc2 eX7_mean_29 tw_976 ?_
        obtain rfl := Option.some.inj h
        exact V_lret eX7_mean_32 rfl ⟨rfl, rfl⟩
    · replace h := (if_pos hb2).symm.trans h
      refine V_ldc2 eX7_mean_18 tw_975 ?_
      obtain rfl := Option.some.inj h
      exact V_lret eX7_mean_21 rfl ⟨rfl, rfl⟩
theorem hdX7_waits : yX7_waits.cls ≠ "java/lang/invoke/MethodHandle" ∧ yX7_waits.cls ≠ "java/lang/invoke/VarHandle" ∧ (parseMethodDescriptor yX7_waits.desc).map (fun d => d.parameters.length) = some 5 := by decide +kernel
theorem eX7_waits_0 : Dc cX7_waits 0 (.aload_n 0) 1 1 := ⟨by decide +kernel, rfl⟩
theorem eX7_waits_1 : Dc cX7_waits 1 (.iload_n 1) 1 2 := ⟨by decide +kernel, rfl⟩
theorem eX7_waits_2 : Dc cX7_waits 2 (.invokevirtual 126) 3 5 := ⟨by decide +kernel, rfl⟩
theorem eX7_waits_5 : Dc cX7_waits 5 (.ifCond .ne 5) 3 8 := ⟨by decide +kernel, rfl⟩
theorem eX7_waits_8 : Dc cX7_waits 8 (.iconst (-1)) 1 9 := ⟨by decide +kernel, rfl⟩
theorem eX7_waits_9 : Dc cX7_waits 9 (.ireturn) 1 10 := ⟨by decide +kernel, rfl⟩
theorem eX7_waits_10 : Dc cX7_waits 10 (.iload_n 2) 1 11 := ⟨by decide +kernel, rfl⟩
theorem eX7_waits_11 : Dc cX7_waits 11 (.iload_n 3) 1 12 := ⟨by decide +kernel, rfl⟩
theorem eX7_waits_12 : Dc cX7_waits 12 (.invokestatic 235) 3 15 := ⟨by decide +kernel, rfl⟩
theorem eX7_waits_15 : Dc cX7_waits 15 (.ifCond .eq 29) 3 18 := ⟨by decide +kernel, rfl⟩
theorem eX7_waits_18 : Dc cX7_waits 18 (.iload 5) 2 20 := ⟨by decide +kernel, rfl⟩
theorem eX7_waits_20 : Dc cX7_waits 20 (.i2l) 1 21 := ⟨by decide +kernel, rfl⟩
theorem eX7_waits_21 : Dc cX7_waits 21 (.lconst 1) 1 22 := ⟨by decide +kernel, rfl⟩
theorem eX7_waits_22 : Dc cX7_waits 22 (.ldc2_w 250) 3 25 := ⟨by decide +kernel, rfl⟩
theorem eX7_waits_25 : Dc cX7_waits 25 (.invokestatic 79) 3 28 := ⟨by decide +kernel, rfl⟩
theorem eX7_waits_28 : Dc cX7_waits 28 (.ifCond .eq 16) 3 31 := ⟨by decide +kernel, rfl⟩
theorem eX7_waits_31 : Dc cX7_waits 31 (.iload 4) 2 33 := ⟨by decide +kernel, rfl⟩
theorem eX7_waits_33 : Dc cX7_waits 33 (.i2l) 1 34 := ⟨by decide +kernel, rfl⟩
theorem eX7_waits_34 : Dc cX7_waits 34 (.lconst 0) 1 35 := ⟨by decide +kernel, rfl⟩
theorem eX7_waits_35 : Dc cX7_waits 35 (.iload 5) 2 37 := ⟨by decide +kernel, rfl⟩
theorem eX7_waits_37 : Dc cX7_waits 37 (.i2l) 1 38 := ⟨by decide +kernel, rfl⟩
theorem eX7_waits_38 : Dc cX7_waits 38 (.invokestatic 79) 3 41 := ⟨by decide +kernel, rfl⟩
theorem eX7_waits_41 : Dc cX7_waits 41 (.ifCond .ne 6) 3 44 := ⟨by decide +kernel, rfl⟩
theorem eX7_waits_44 : Dc cX7_waits 44 (.bipush (-2)) 2 46 := ⟨by decide +kernel, rfl⟩
theorem eX7_waits_46 : Dc cX7_waits 46 (.ireturn) 1 47 := ⟨by decide +kernel, rfl⟩
theorem eX7_waits_47 : Dc cX7_waits 47 (.aload_n 0) 1 48 := ⟨by decide +kernel, rfl⟩
theorem eX7_waits_48 : Dc cX7_waits 48 (.aload_n 0) 1 49 := ⟨by decide +kernel, rfl⟩
theorem eX7_waits_49 : Dc cX7_waits 49 (.getfield 13) 3 52 := ⟨by decide +kernel, rfl⟩
theorem eX7_waits_52 : Dc cX7_waits 52 (.iload_n 1) 1 53 := ⟨by decide +kernel, rfl⟩
theorem eX7_waits_53 : Dc cX7_waits 53 (.iaload) 1 54 := ⟨by decide +kernel, rfl⟩
theorem eX7_waits_54 : Dc cX7_waits 54 (.invokevirtual 131) 3 57 := ⟨by decide +kernel, rfl⟩
theorem eX7_waits_57 : Dc cX7_waits 57 (.ifCond .ne 6) 3 60 := ⟨by decide +kernel, rfl⟩
theorem eX7_waits_60 : Dc cX7_waits 60 (.bipush (-3)) 2 62 := ⟨by decide +kernel, rfl⟩
theorem eX7_waits_62 : Dc cX7_waits 62 (.ireturn) 1 63 := ⟨by decide +kernel, rfl⟩
theorem eX7_waits_63 : Dc cX7_waits 63 (.aload_n 0) 1 64 := ⟨by decide +kernel, rfl⟩
theorem eX7_waits_64 : Dc cX7_waits 64 (.invokevirtual 170) 3 67 := ⟨by decide +kernel, rfl⟩
theorem eX7_waits_67 : Dc cX7_waits 67 (.iconst 0) 1 68 := ⟨by decide +kernel, rfl⟩
theorem eX7_waits_68 : Dc cX7_waits 68 (.istore 6) 2 70 := ⟨by decide +kernel, rfl⟩
theorem eX7_waits_70 : Dc cX7_waits 70 (.iload 6) 2 72 := ⟨by decide +kernel, rfl⟩
theorem eX7_waits_72 : Dc cX7_waits 72 (.aload_n 0) 1 73 := ⟨by decide +kernel, rfl⟩
theorem eX7_waits_73 : Dc cX7_waits 73 (.getfield 76) 3 76 := ⟨by decide +kernel, rfl⟩
theorem eX7_waits_76 : Dc cX7_waits 76 (.if_icmp .gt 56) 3 79 := ⟨by decide +kernel, rfl⟩
theorem eX7_waits_79 : Dc cX7_waits 79 (.iload 6) 2 81 := ⟨by decide +kernel, rfl⟩
theorem eX7_waits_81 : Dc cX7_waits 81 (.aload_n 0) 1 82 := ⟨by decide +kernel, rfl⟩
theorem eX7_waits_82 : Dc cX7_waits 82 (.getfield 73) 3 85 := ⟨by decide +kernel, rfl⟩
theorem eX7_waits_85 : Dc cX7_waits 85 (.if_icmp .gt 47) 3 88 := ⟨by decide +kernel, rfl⟩
theorem eX7_waits_88 : Dc cX7_waits 88 (.aload_n 0) 1 89 := ⟨by decide +kernel, rfl⟩
theorem eX7_waits_89 : Dc cX7_waits 89 (.getfield 40) 3 92 := ⟨by decide +kernel, rfl⟩
theorem eX7_waits_92 : Dc cX7_waits 92 (.aload_n 0) 1 93 := ⟨by decide +kernel, rfl⟩
theorem eX7_waits_93 : Dc cX7_waits 93 (.getfield 13) 3 96 := ⟨by decide +kernel, rfl⟩
theorem eX7_waits_96 : Dc cX7_waits 96 (.iload_n 1) 1 97 := ⟨by decide +kernel, rfl⟩
theorem eX7_waits_97 : Dc cX7_waits 97 (.iaload) 1 98 := ⟨by decide +kernel, rfl⟩
theorem eX7_waits_98 : Dc cX7_waits 98 (.iload 6) 2 100 := ⟨by decide +kernel, rfl⟩
theorem eX7_waits_100 : Dc cX7_waits 100 (.iastore) 1 101 := ⟨by decide +kernel, rfl⟩
theorem eX7_waits_101 : Dc cX7_waits 101 (.aload_n 0) 1 102 := ⟨by decide +kernel, rfl⟩
theorem eX7_waits_102 : Dc cX7_waits 102 (.invokevirtual 134) 3 105 := ⟨by decide +kernel, rfl⟩
theorem eX7_waits_105 : Dc cX7_waits 105 (.aload_n 0) 1 106 := ⟨by decide +kernel, rfl⟩
theorem eX7_waits_106 : Dc cX7_waits 106 (.iload_n 1) 1 107 := ⟨by decide +kernel, rfl⟩
theorem eX7_waits_107 : Dc cX7_waits 107 (.iload_n 2) 1 108 := ⟨by decide +kernel, rfl⟩
theorem eX7_waits_108 : Dc cX7_waits 108 (.iload_n 3) 1 109 := ⟨by decide +kernel, rfl⟩
theorem eX7_waits_109 : Dc cX7_waits 109 (.invokevirtual 242) 3 112 := ⟨by decide +kernel, rfl⟩
theorem eX7_waits_112 : Dc cX7_waits 112 (.iload 5) 2 114 := ⟨by decide +kernel, rfl⟩
theorem eX7_waits_114 : Dc cX7_waits 114 (.imul) 1 115 := ⟨by decide +kernel, rfl⟩
theorem eX7_waits_115 : Dc cX7_waits 115 (.bipush 10) 2 117 := ⟨by decide +kernel, rfl⟩
theorem eX7_waits_117 : Dc cX7_waits 117 (.iload 4) 2 119 := ⟨by decide +kernel, rfl⟩
theorem eX7_waits_119 : Dc cX7_waits 119 (.imul) 1 120 := ⟨by decide +kernel, rfl⟩
theorem eX7_waits_120 : Dc cX7_waits 120 (.if_icmp .lt 6) 3 123 := ⟨by decide +kernel, rfl⟩
theorem eX7_waits_123 : Dc cX7_waits 123 (.iload 6) 2 125 := ⟨by decide +kernel, rfl⟩
theorem eX7_waits_125 : Dc cX7_waits 125 (.ireturn) 1 126 := ⟨by decide +kernel, rfl⟩
theorem eX7_waits_126 : Dc cX7_waits 126 (.iinc 6 1) 3 129 := ⟨by decide +kernel, rfl⟩
theorem eX7_waits_129 : Dc cX7_waits 129 (.goto (-59)) 3 132 := ⟨by decide +kernel, rfl⟩
theorem eX7_waits_132 : Dc cX7_waits 132 (.bipush (-6)) 2 134 := ⟨by decide +kernel, rfl⟩
theorem eX7_waits_134 : Dc cX7_waits 134 (.ireturn) 1 135 := ⟨by decide +kernel, rfl⟩
def fX7_waits_L70  (a1 : Int32) (a2 : Int32) (a3 : Int32) (a4 : Int32) (a5 : Int32) : Nat → Int32 → SS → Option (Int32 × SS)
  | 0, _, _ => none
  | n + 1, a6, c => if (c.1 11) < a6 then some ((-6 : Int32), c) else if (c.1 10) < a6 then some ((-6 : Int32), c) else ald 8 (c.2 4) a1 (fun v10 => ckb 6 v10 (Option.bind (fX7_findLeaves (sA c 17 (v10).toNatClampNeg a6)) (fun q12 => Option.bind (fX7_tenthsOf q12 a1 a2 a3) (fun q13 => if (q13 * a5) < ((10 : Int32) * a4) then fX7_waits_L70 a1 a2 a3 a4 a5 n (a6 + (1 : Int32)) q12 else some (a6, q12)))))
def fX7_waits (c : SS) (p1 : Int32) (p2 : Int32) (p3 : Int32) (p4 : Int32) (p5 : Int32) : Option (Int32 × SS) := if (fX7_isThere c p1) = (0 : Int32) then some ((-1 : Int32), c) else if (fX7_isRunning p2 p3) = (0 : Int32) then some ((-2 : Int32), c) else if (fX7_in (p5).toInt64 (1 : Int64) (100 : Int64)) = (0 : Int32) then some ((-2 : Int32), c) else if (fX7_in (p4).toInt64 (0 : Int64) (p5).toInt64) = (0 : Int32) then some ((-2 : Int32), c) else ald 8 (c.2 4) p1 (fun v5 => if (fX7_isOpen c v5) = (0 : Int32) then some ((-3 : Int32), c) else Option.bind (fX7_noHold c) (fun q7 => fX7_waits_L70 p1 p2 p3 p4 p5 fu (0 : Int32) q7))
set_option maxRecDepth 20000 in
theorem ctX7_waits_L70 (l : Launch) (G : tg_G) (A : Nat → Nat)  (a1 : Int32) (a2 : Int32) (a3 : Int32) (a4 : Int32) (a5 : Int32) {z : Int32 × SS}  : ∀ (n : Nat) (a6 : Int32) (c : SS), fX7_waits_L70 a1 a2 a3 a4 a5 n a6 c = some z → V l G (tg_Zm G (fun v w1 => v = some (.int z.1) ∧ w1 = wM G A z.2) 0 0) tg_E0 (tg_R 3 66) "TramGodModel" "waits" cX7_waits 7 (some .int) 70 [(0, .ref (A 0)), (1, .int a1), (2, .int a2), (3, .int a3), (4, .int a4), (5, .int a5), (6, .int a6)] [] (wM G A c) 0 0 := by
  intro n
  induction n with
  | zero => intro a6 c h; exact absurd h (by simp [fX7_waits_L70])
  | succ n ih =>
    intro a6 c h
    unfold fX7_waits_L70 at h
    refine V_iload eX7_waits_70 6 rfl ?_
    refine V_aload_n eX7_waits_72 0 rfl ?_
    refine V_get (v := .int (c.1 11)) eX7_waits_73 inX7 0 rfl rfl 11 (Nat.le_of_ble_eq_true rfl) tw_656 rfl ?_
    refine V_icmp_gt (tgt := 132) eX7_waits_76 rfl (fun hb8 => ?_) (fun hb8 => ?_)
    · replace h := (if_pos hb8).symm.trans h
      refine V_bipush (v := (-6 : Int32)) eX7_waits_132 rfl ?_
      obtain rfl := Option.some.inj h
      exact V_ret eX7_waits_134 rfl ⟨rfl, rfl⟩
    · replace h := (if_neg hb8).symm.trans h
      refine V_iload eX7_waits_79 6 rfl ?_
      refine V_aload_n eX7_waits_81 0 rfl ?_
      refine V_get (v := .int (c.1 10)) eX7_waits_82 inX7 0 rfl rfl 10 (Nat.le_of_ble_eq_true rfl) tw_655 rfl ?_
      refine V_icmp_gt (tgt := 132) eX7_waits_85 rfl (fun hb9 => ?_) (fun hb9 => ?_)
      · replace h := (if_pos hb9).symm.trans h
        refine V_bipush (v := (-6 : Int32)) eX7_waits_132 rfl ?_
        obtain rfl := Option.some.inj h
        exact V_ret eX7_waits_134 rfl ⟨rfl, rfl⟩
      · replace h := (if_neg hb9).symm.trans h
        refine V_aload_n eX7_waits_88 0 rfl ?_
        refine V_get (v := .ref (A 11)) eX7_waits_89 inX7 0 rfl rfl 17 (Nat.le_of_ble_eq_true rfl) tw_662 rfl ?_
        refine V_aload_n eX7_waits_92 0 rfl ?_
        refine V_get (v := .ref (A 2)) eX7_waits_93 inX7 0 rfl rfl 4 (Nat.le_of_ble_eq_true rfl) tw_649 rfl ?_
        refine V_iload_n eX7_waits_96 1 rfl ?_
        obtain ⟨v10, hi10, ev10, h⟩ := ald_some h
        refine V_ialdv eX7_waits_97 2 rfl hi10 ev10 ?_
        refine V_iload eX7_waits_98 6 rfl ?_
        obtain ⟨hi11, h⟩ := ckb_some h
        refine V_iast (w' := wM G A (sA c 17 (v10).toNatClampNeg a6)) eX7_waits_100 11 rfl hi11 rfl ?_
        refine V_aload_n eX7_waits_101 0 rfl ?_
        obtain ⟨q12, hc12, h⟩ := Option.bind_eq_some_iff.mp h
        refine V_callVv (rest := []) eX7_waits_102 (ctX7_findLeaves l G A (sA c 17 (v10).toNatClampNeg a6) hc12) tc_834 tw_831 tw_8 tw_833 ts_27 0 rfl rfl hdX7_findLeaves rfl ⟨Nat.le_of_ble_eq_true rfl, Nat.le_of_ble_eq_true rfl⟩ rfl (Nat.le_of_ble_eq_true rfl) ⟨Nat.zero_le _, Nat.zero_le _⟩ ?_
        refine V_aload_n eX7_waits_105 0 rfl ?_
        refine V_iload_n eX7_waits_106 1 rfl ?_
        refine V_iload_n eX7_waits_107 2 rfl ?_
        refine V_iload_n eX7_waits_108 3 rfl ?_
        obtain ⟨q13, hc13, h⟩ := Option.bind_eq_some_iff.mp h
        refine V_callVi (rest := []) eX7_waits_109 (ctX7_tenthsOf l G A q12 a1 a2 a3 hc13) tc_980 tw_977 tw_8 tw_979 ts_45 0 rfl rfl hdX7_tenthsOf rfl ⟨Nat.le_of_ble_eq_true rfl, Nat.le_of_ble_eq_true rfl⟩ rfl (Nat.le_of_ble_eq_true rfl) ⟨Nat.zero_le _, Nat.zero_le _⟩ ?_
        refine V_iload eX7_waits_112 5 rfl ?_
        refine V_imul eX7_waits_114 ?_
        refine V_bipush (v := (10 : Int32)) eX7_waits_115 rfl ?_
        refine V_iload eX7_waits_117 4 rfl ?_
        refine V_imul eX7_waits_119 ?_
        refine V_icmp_lt (tgt := 126) eX7_waits_120 rfl (fun hb14 => ?_) (fun hb14 => ?_)
        · replace h := (if_pos hb14).symm.trans h
          refine V_iinc (v := (a6 + (1 : Int32))) (lv' := [(6, .int (a6 + (1 : Int32))), (0, .ref (A 0)), (1, .int a1), (2, .int a2), (3, .int a3), (4, .int a4), (5, .int a5)]) eX7_waits_126 6 rfl rfl (Nat.le_of_ble_eq_true rfl) rfl ?_
          refine V_goto (tgt := 70) eX7_waits_129 rfl ?_
          refine V_lv (lv' := [(0, .ref (A 0)), (1, .int a1), (2, .int a2), (3, .int a3), (4, .int a4), (5, .int a5), (6, .int (a6 + (1 : Int32)))]) [1, 2, 3, 4, 5, 6, 0] rfl ?_
          exact ih (a6 + (1 : Int32)) q12 h
        · replace h := (if_neg hb14).symm.trans h
          refine V_iload eX7_waits_123 6 rfl ?_
          obtain rfl := Option.some.inj h
          exact V_ret eX7_waits_125 rfl ⟨rfl, rfl⟩
set_option maxRecDepth 20000 in
theorem ctX7_waits (l : Launch) (G : tg_G) (A : Nat → Nat) (c : SS) (p1 : Int32) (p2 : Int32) (p3 : Int32) (p4 : Int32) (p5 : Int32) {z : Int32 × SS} (h : fX7_waits c p1 p2 p3 p4 p5 = some z) : Mt l G yX7_waits cX7_waits 7 (some .int) (tg_R 3 66) [.ref (A 0), .int p1, .int p2, .int p3, .int p4, .int p5] (wM G A c) (fun v w1 => v = some (.int z.1) ∧ w1 = wM G A z.2) := by
  refine Mt_of2 (own := "TramGodModel") (nm := "waits") rfl rfl rfl (Nat.le_of_ble_eq_true rfl) (lv := [(0, .ref (A 0)), (1, .int p1), (2, .int p2), (3, .int p3), (4, .int p4), (5, .int p5)]) rfl ?_
  unfold fX7_waits at h
  refine V_aload_n eX7_waits_0 0 rfl ?_
  refine V_iload_n eX7_waits_1 1 rfl ?_
  refine V_callVi (rest := []) eX7_waits_2 (ctX7_isThere l G A c p1 rfl) tc_796 tw_793 tw_8 tw_795 ts_22 0 rfl rfl hdX7_isThere rfl ⟨Nat.le_of_ble_eq_true rfl, Nat.le_of_ble_eq_true rfl⟩ rfl (Nat.le_of_ble_eq_true rfl) ⟨Nat.zero_le _, Nat.zero_le _⟩ ?_
  refine V_if_ne (tgt := 10) eX7_waits_5 rfl (fun hb1 => ?_) (fun hb1 => ?_)
  · replace h := (if_neg hb1).symm.trans h
    refine V_iload_n eX7_waits_10 2 rfl ?_
    refine V_iload_n eX7_waits_11 3 rfl ?_
    refine V_callSi (rest := []) eX7_waits_12 (ctX7_isRunning l G _ p2 p3 rfl) tc_972 tw_970 tw_8 tw_971 hdX7_isRunning rfl ⟨Nat.le_of_ble_eq_true rfl, Nat.le_of_ble_eq_true rfl⟩ rfl (Nat.le_of_ble_eq_true rfl) ⟨Nat.zero_le _, Nat.zero_le _⟩ ?_
    refine V_if_eq (tgt := 44) eX7_waits_15 rfl (fun hb2 => ?_) (fun hb2 => ?_)
    · replace h := (if_pos hb2).symm.trans h
      refine V_bipush (v := (-2 : Int32)) eX7_waits_44 rfl ?_
      obtain rfl := Option.some.inj h
      exact V_ret eX7_waits_46 rfl ⟨rfl, rfl⟩
    · replace h := (if_neg hb2).symm.trans h
      refine V_iload eX7_waits_18 5 rfl ?_
      refine V_i2l eX7_waits_20 ?_
      refine V_lconst (v := (1 : Int64)) eX7_waits_21 rfl ?_
      refine V_ldc2 eX7_waits_22 tw_992 ?_
      refine V_callSi (rest := []) eX7_waits_25 (ctX7_in l G _ (p5).toInt64 (1 : Int64) (100 : Int64) rfl) tc_748 tw_746 tw_8 tw_747 hdX7_in rfl ⟨Nat.le_of_ble_eq_true rfl, Nat.le_of_ble_eq_true rfl⟩ rfl (Nat.le_of_ble_eq_true rfl) ⟨Nat.zero_le _, Nat.zero_le _⟩ ?_
      refine V_if_eq (tgt := 44) eX7_waits_28 rfl (fun hb3 => ?_) (fun hb3 => ?_)
      · replace h := (if_pos hb3).symm.trans h
        refine V_bipush (v := (-2 : Int32)) eX7_waits_44 rfl ?_
        obtain rfl := Option.some.inj h
        exact V_ret eX7_waits_46 rfl ⟨rfl, rfl⟩
      · replace h := (if_neg hb3).symm.trans h
        refine V_iload eX7_waits_31 4 rfl ?_
        refine V_i2l eX7_waits_33 ?_
        refine V_lconst (v := (0 : Int64)) eX7_waits_34 rfl ?_
        refine V_iload eX7_waits_35 5 rfl ?_
        refine V_i2l eX7_waits_37 ?_
        refine V_callSi (rest := []) eX7_waits_38 (ctX7_in l G _ (p4).toInt64 (0 : Int64) (p5).toInt64 rfl) tc_748 tw_746 tw_8 tw_747 hdX7_in rfl ⟨Nat.le_of_ble_eq_true rfl, Nat.le_of_ble_eq_true rfl⟩ rfl (Nat.le_of_ble_eq_true rfl) ⟨Nat.zero_le _, Nat.zero_le _⟩ ?_
        refine V_if_ne (tgt := 47) eX7_waits_41 rfl (fun hb4 => ?_) (fun hb4 => ?_)
        · replace h := (if_neg hb4).symm.trans h
          refine V_aload_n eX7_waits_47 0 rfl ?_
          refine V_aload_n eX7_waits_48 0 rfl ?_
          refine V_get (v := .ref (A 2)) eX7_waits_49 inX7 0 rfl rfl 4 (Nat.le_of_ble_eq_true rfl) tw_649 rfl ?_
          refine V_iload_n eX7_waits_52 1 rfl ?_
          obtain ⟨v5, hi5, ev5, h⟩ := ald_some h
          refine V_ialdv eX7_waits_53 2 rfl hi5 ev5 ?_
          refine V_callVi (rest := []) eX7_waits_54 (ctX7_isOpen l G A c v5 rfl) tc_818 tw_815 tw_8 tw_817 ts_24 0 rfl rfl hdX7_isOpen rfl ⟨Nat.le_of_ble_eq_true rfl, Nat.le_of_ble_eq_true rfl⟩ rfl (Nat.le_of_ble_eq_true rfl) ⟨Nat.zero_le _, Nat.zero_le _⟩ ?_
          refine V_if_ne (tgt := 63) eX7_waits_57 rfl (fun hb6 => ?_) (fun hb6 => ?_)
          · replace h := (if_neg hb6).symm.trans h
            refine V_aload_n eX7_waits_63 0 rfl ?_
            obtain ⟨q7, hc7, h⟩ := Option.bind_eq_some_iff.mp h
            refine V_callVv (rest := []) eX7_waits_64 (ctX7_noHold l G A c hc7) tc_870 tw_867 tw_8 tw_869 ts_32 0 rfl rfl hdX7_noHold rfl ⟨Nat.le_of_ble_eq_true rfl, Nat.le_of_ble_eq_true rfl⟩ rfl (Nat.le_of_ble_eq_true rfl) ⟨Nat.zero_le _, Nat.zero_le _⟩ ?_
            refine V_iconst (v := (0 : Int32)) eX7_waits_67 rfl ?_
            refine V_istore (lv' := [(6, .int (0 : Int32)), (0, .ref (A 0)), (1, .int p1), (2, .int p2), (3, .int p3), (4, .int p4), (5, .int p5)]) eX7_waits_68 (Nat.le_of_ble_eq_true rfl) rfl ?_
            refine V_lv (lv' := [(0, .ref (A 0)), (1, .int p1), (2, .int p2), (3, .int p3), (4, .int p4), (5, .int p5), (6, .int (0 : Int32))]) [1, 2, 3, 4, 5, 6, 0] rfl ?_
            refine ctX7_waits_L70 l G A p1 p2 p3 p4 p5 fu (0 : Int32) q7 h
          · replace h := (if_pos hb6).symm.trans h
            refine V_bipush (v := (-3 : Int32)) eX7_waits_60 rfl ?_
            obtain rfl := Option.some.inj h
            exact V_ret eX7_waits_62 rfl ⟨rfl, rfl⟩
        · replace h := (if_pos hb4).symm.trans h
          refine V_bipush (v := (-2 : Int32)) eX7_waits_44 rfl ?_
          obtain rfl := Option.some.inj h
          exact V_ret eX7_waits_46 rfl ⟨rfl, rfl⟩
  · replace h := (if_pos hb1).symm.trans h
    refine V_iconst (v := (-1 : Int32)) eX7_waits_8 rfl ?_
    obtain rfl := Option.some.inj h
    exact V_ret eX7_waits_9 rfl ⟨rfl, rfl⟩
theorem hdX7_year : yX7_year.cls ≠ "java/lang/invoke/MethodHandle" ∧ yX7_year.cls ≠ "java/lang/invoke/VarHandle" ∧ (parseMethodDescriptor yX7_year.desc).map (fun d => d.parameters.length) = some 3 := by decide +kernel
theorem eX7_year_0 : Dc cX7_year 0 (.iload_n 1) 1 1 := ⟨by decide +kernel, rfl⟩
theorem eX7_year_1 : Dc cX7_year 1 (.i2l) 1 2 := ⟨by decide +kernel, rfl⟩
theorem eX7_year_2 : Dc cX7_year 2 (.lconst 0) 1 3 := ⟨by decide +kernel, rfl⟩
theorem eX7_year_3 : Dc cX7_year 3 (.ldc2_w 252) 3 6 := ⟨by decide +kernel, rfl⟩
theorem eX7_year_6 : Dc cX7_year 6 (.invokestatic 79) 3 9 := ⟨by decide +kernel, rfl⟩
theorem eX7_year_9 : Dc cX7_year 9 (.ifCond .eq 27) 3 12 := ⟨by decide +kernel, rfl⟩
theorem eX7_year_12 : Dc cX7_year 12 (.iload_n 2) 1 13 := ⟨by decide +kernel, rfl⟩
theorem eX7_year_13 : Dc cX7_year 13 (.i2l) 1 14 := ⟨by decide +kernel, rfl⟩
theorem eX7_year_14 : Dc cX7_year 14 (.lconst 1) 1 15 := ⟨by decide +kernel, rfl⟩
theorem eX7_year_15 : Dc cX7_year 15 (.ldc2_w 117) 3 18 := ⟨by decide +kernel, rfl⟩
theorem eX7_year_18 : Dc cX7_year 18 (.invokestatic 79) 3 21 := ⟨by decide +kernel, rfl⟩
theorem eX7_year_21 : Dc cX7_year 21 (.ifCond .eq 15) 3 24 := ⟨by decide +kernel, rfl⟩
theorem eX7_year_24 : Dc cX7_year 24 (.iload_n 3) 1 25 := ⟨by decide +kernel, rfl⟩
theorem eX7_year_25 : Dc cX7_year 25 (.i2l) 1 26 := ⟨by decide +kernel, rfl⟩
theorem eX7_year_26 : Dc cX7_year 26 (.lconst 0) 1 27 := ⟨by decide +kernel, rfl⟩
theorem eX7_year_27 : Dc cX7_year 27 (.ldc2_w 214) 3 30 := ⟨by decide +kernel, rfl⟩
theorem eX7_year_30 : Dc cX7_year 30 (.invokestatic 79) 3 33 := ⟨by decide +kernel, rfl⟩
theorem eX7_year_33 : Dc cX7_year 33 (.ifCond .ne 6) 3 36 := ⟨by decide +kernel, rfl⟩
theorem eX7_year_36 : Dc cX7_year 36 (.bipush (-2)) 2 38 := ⟨by decide +kernel, rfl⟩
theorem eX7_year_38 : Dc cX7_year 38 (.ireturn) 1 39 := ⟨by decide +kernel, rfl⟩
theorem eX7_year_39 : Dc cX7_year 39 (.aload_n 0) 1 40 := ⟨by decide +kernel, rfl⟩
theorem eX7_year_40 : Dc cX7_year 40 (.invokevirtual 153) 3 43 := ⟨by decide +kernel, rfl⟩
theorem eX7_year_43 : Dc cX7_year 43 (.ifCond .eq 6) 3 46 := ⟨by decide +kernel, rfl⟩
theorem eX7_year_46 : Dc cX7_year 46 (.bipush (-5)) 2 48 := ⟨by decide +kernel, rfl⟩
theorem eX7_year_48 : Dc cX7_year 48 (.ireturn) 1 49 := ⟨by decide +kernel, rfl⟩
theorem eX7_year_49 : Dc cX7_year 49 (.aload_n 0) 1 50 := ⟨by decide +kernel, rfl⟩
theorem eX7_year_50 : Dc cX7_year 50 (.invokevirtual 134) 3 53 := ⟨by decide +kernel, rfl⟩
theorem eX7_year_53 : Dc cX7_year 53 (.iload_n 1) 1 54 := ⟨by decide +kernel, rfl⟩
theorem eX7_year_54 : Dc cX7_year 54 (.istore 4) 2 56 := ⟨by decide +kernel, rfl⟩
theorem eX7_year_56 : Dc cX7_year 56 (.ldc 254) 2 58 := ⟨by decide +kernel, rfl⟩
theorem eX7_year_58 : Dc cX7_year 58 (.istore 5) 2 60 := ⟨by decide +kernel, rfl⟩
theorem eX7_year_60 : Dc cX7_year 60 (.iconst 0) 1 61 := ⟨by decide +kernel, rfl⟩
theorem eX7_year_61 : Dc cX7_year 61 (.istore 6) 2 63 := ⟨by decide +kernel, rfl⟩
theorem eX7_year_63 : Dc cX7_year 63 (.iconst 0) 1 64 := ⟨by decide +kernel, rfl⟩
theorem eX7_year_64 : Dc cX7_year 64 (.istore 7) 2 66 := ⟨by decide +kernel, rfl⟩
theorem eX7_year_66 : Dc cX7_year 66 (.iconst 0) 1 67 := ⟨by decide +kernel, rfl⟩
theorem eX7_year_67 : Dc cX7_year 67 (.istore 8) 2 69 := ⟨by decide +kernel, rfl⟩
theorem eX7_year_69 : Dc cX7_year 69 (.iload 8) 2 71 := ⟨by decide +kernel, rfl⟩
theorem eX7_year_71 : Dc cX7_year 71 (.iload_n 2) 1 72 := ⟨by decide +kernel, rfl⟩
theorem eX7_year_72 : Dc cX7_year 72 (.if_icmp .ge 138) 3 75 := ⟨by decide +kernel, rfl⟩
theorem eX7_year_75 : Dc cX7_year 75 (.ldc2_w 255) 3 78 := ⟨by decide +kernel, rfl⟩
theorem eX7_year_78 : Dc cX7_year 78 (.iload 4) 2 80 := ⟨by decide +kernel, rfl⟩
theorem eX7_year_80 : Dc cX7_year 80 (.i2l) 1 81 := ⟨by decide +kernel, rfl⟩
theorem eX7_year_81 : Dc cX7_year 81 (.lmul) 1 82 := ⟨by decide +kernel, rfl⟩
theorem eX7_year_82 : Dc cX7_year 82 (.ldc2_w 257) 3 85 := ⟨by decide +kernel, rfl⟩
theorem eX7_year_85 : Dc cX7_year 85 (.ladd) 1 86 := ⟨by decide +kernel, rfl⟩
theorem eX7_year_86 : Dc cX7_year 86 (.ldc2_w 259) 3 89 := ⟨by decide +kernel, rfl⟩
theorem eX7_year_89 : Dc cX7_year 89 (.lrem) 1 90 := ⟨by decide +kernel, rfl⟩
theorem eX7_year_90 : Dc cX7_year 90 (.l2i) 1 91 := ⟨by decide +kernel, rfl⟩
theorem eX7_year_91 : Dc cX7_year 91 (.istore 4) 2 93 := ⟨by decide +kernel, rfl⟩
theorem eX7_year_93 : Dc cX7_year 93 (.iconst 0) 1 94 := ⟨by decide +kernel, rfl⟩
theorem eX7_year_94 : Dc cX7_year 94 (.istore 9) 2 96 := ⟨by decide +kernel, rfl⟩
theorem eX7_year_96 : Dc cX7_year 96 (.iconst 0) 1 97 := ⟨by decide +kernel, rfl⟩
theorem eX7_year_97 : Dc cX7_year 97 (.istore 10) 2 99 := ⟨by decide +kernel, rfl⟩
theorem eX7_year_99 : Dc cX7_year 99 (.iload 10) 2 101 := ⟨by decide +kernel, rfl⟩
theorem eX7_year_101 : Dc cX7_year 101 (.bipush 8) 2 103 := ⟨by decide +kernel, rfl⟩
theorem eX7_year_103 : Dc cX7_year 103 (.if_icmp .ge 59) 3 106 := ⟨by decide +kernel, rfl⟩
theorem eX7_year_106 : Dc cX7_year 106 (.iload 9) 2 108 := ⟨by decide +kernel, rfl⟩
theorem eX7_year_108 : Dc cX7_year 108 (.aload_n 0) 1 109 := ⟨by decide +kernel, rfl⟩
theorem eX7_year_109 : Dc cX7_year 109 (.iload 10) 2 111 := ⟨by decide +kernel, rfl⟩
theorem eX7_year_111 : Dc cX7_year 111 (.invokevirtual 126) 3 114 := ⟨by decide +kernel, rfl⟩
theorem eX7_year_114 : Dc cX7_year 114 (.ifCond .eq 38) 3 117 := ⟨by decide +kernel, rfl⟩
theorem eX7_year_117 : Dc cX7_year 117 (.iload 4) 2 119 := ⟨by decide +kernel, rfl⟩
theorem eX7_year_119 : Dc cX7_year 119 (.iload 10) 2 121 := ⟨by decide +kernel, rfl⟩
theorem eX7_year_121 : Dc cX7_year 121 (.ishr) 1 122 := ⟨by decide +kernel, rfl⟩
theorem eX7_year_122 : Dc cX7_year 122 (.iconst 1) 1 123 := ⟨by decide +kernel, rfl⟩
theorem eX7_year_123 : Dc cX7_year 123 (.iand) 1 124 := ⟨by decide +kernel, rfl⟩
theorem eX7_year_124 : Dc cX7_year 124 (.iconst 1) 1 125 := ⟨by decide +kernel, rfl⟩
theorem eX7_year_125 : Dc cX7_year 125 (.if_icmp .ne 27) 3 128 := ⟨by decide +kernel, rfl⟩
theorem eX7_year_128 : Dc cX7_year 128 (.aload_n 0) 1 129 := ⟨by decide +kernel, rfl⟩
theorem eX7_year_129 : Dc cX7_year 129 (.iload 10) 2 131 := ⟨by decide +kernel, rfl⟩
theorem eX7_year_131 : Dc cX7_year 131 (.iload 4) 2 133 := ⟨by decide +kernel, rfl⟩
theorem eX7_year_133 : Dc cX7_year 133 (.sipush 256) 3 136 := ⟨by decide +kernel, rfl⟩
theorem eX7_year_136 : Dc cX7_year 136 (.idiv) 1 137 := ⟨by decide +kernel, rfl⟩
theorem eX7_year_137 : Dc cX7_year 137 (.iconst 4) 1 138 := ⟨by decide +kernel, rfl⟩
theorem eX7_year_138 : Dc cX7_year 138 (.irem) 1 139 := ⟨by decide +kernel, rfl⟩
theorem eX7_year_139 : Dc cX7_year 139 (.invokevirtual 137) 3 142 := ⟨by decide +kernel, rfl⟩
theorem eX7_year_142 : Dc cX7_year 142 (.ifCond .eq 10) 3 145 := ⟨by decide +kernel, rfl⟩
theorem eX7_year_145 : Dc cX7_year 145 (.iconst 1) 1 146 := ⟨by decide +kernel, rfl⟩
theorem eX7_year_146 : Dc cX7_year 146 (.iload 10) 2 148 := ⟨by decide +kernel, rfl⟩
theorem eX7_year_148 : Dc cX7_year 148 (.ishl) 1 149 := ⟨by decide +kernel, rfl⟩
theorem eX7_year_149 : Dc cX7_year 149 (.goto 4) 3 152 := ⟨by decide +kernel, rfl⟩
theorem eX7_year_152 : Dc cX7_year 152 (.iconst 0) 1 153 := ⟨by decide +kernel, rfl⟩
theorem eX7_year_153 : Dc cX7_year 153 (.ior) 1 154 := ⟨by decide +kernel, rfl⟩
theorem eX7_year_154 : Dc cX7_year 154 (.istore 9) 2 156 := ⟨by decide +kernel, rfl⟩
theorem eX7_year_156 : Dc cX7_year 156 (.iinc 10 1) 3 159 := ⟨by decide +kernel, rfl⟩
theorem eX7_year_159 : Dc cX7_year 159 (.goto (-60)) 3 162 := ⟨by decide +kernel, rfl⟩
theorem eX7_year_162 : Dc cX7_year 162 (.iload 5) 2 164 := ⟨by decide +kernel, rfl⟩
theorem eX7_year_164 : Dc cX7_year 164 (.aload_n 0) 1 165 := ⟨by decide +kernel, rfl⟩
theorem eX7_year_165 : Dc cX7_year 165 (.iload 9) 2 167 := ⟨by decide +kernel, rfl⟩
theorem eX7_year_167 : Dc cX7_year 167 (.iload 4) 2 169 := ⟨by decide +kernel, rfl⟩
theorem eX7_year_169 : Dc cX7_year 169 (.sipush 256) 3 172 := ⟨by decide +kernel, rfl⟩
theorem eX7_year_172 : Dc cX7_year 172 (.irem) 1 173 := ⟨by decide +kernel, rfl⟩
theorem eX7_year_173 : Dc cX7_year 173 (.invokevirtual 161) 3 176 := ⟨by decide +kernel, rfl⟩
theorem eX7_year_176 : Dc cX7_year 176 (.iadd) 1 177 := ⟨by decide +kernel, rfl⟩
theorem eX7_year_177 : Dc cX7_year 177 (.istore 5) 2 179 := ⟨by decide +kernel, rfl⟩
theorem eX7_year_179 : Dc cX7_year 179 (.iload 6) 2 181 := ⟨by decide +kernel, rfl⟩
theorem eX7_year_181 : Dc cX7_year 181 (.iload 9) 2 183 := ⟨by decide +kernel, rfl⟩
theorem eX7_year_183 : Dc cX7_year 183 (.invokestatic 122) 3 186 := ⟨by decide +kernel, rfl⟩
theorem eX7_year_186 : Dc cX7_year 186 (.iadd) 1 187 := ⟨by decide +kernel, rfl⟩
theorem eX7_year_187 : Dc cX7_year 187 (.istore 6) 2 189 := ⟨by decide +kernel, rfl⟩
theorem eX7_year_189 : Dc cX7_year 189 (.iload 7) 2 191 := ⟨by decide +kernel, rfl⟩
theorem eX7_year_191 : Dc cX7_year 191 (.iload 9) 2 193 := ⟨by decide +kernel, rfl⟩
theorem eX7_year_193 : Dc cX7_year 193 (.ifCond .ne 7) 3 196 := ⟨by decide +kernel, rfl⟩
theorem eX7_year_196 : Dc cX7_year 196 (.iconst 1) 1 197 := ⟨by decide +kernel, rfl⟩
theorem eX7_year_197 : Dc cX7_year 197 (.goto 4) 3 200 := ⟨by decide +kernel, rfl⟩
theorem eX7_year_200 : Dc cX7_year 200 (.iconst 0) 1 201 := ⟨by decide +kernel, rfl⟩
theorem eX7_year_201 : Dc cX7_year 201 (.iadd) 1 202 := ⟨by decide +kernel, rfl⟩
theorem eX7_year_202 : Dc cX7_year 202 (.istore 7) 2 204 := ⟨by decide +kernel, rfl⟩
theorem eX7_year_204 : Dc cX7_year 204 (.iinc 8 1) 3 207 := ⟨by decide +kernel, rfl⟩
theorem eX7_year_207 : Dc cX7_year 207 (.goto (-138)) 3 210 := ⟨by decide +kernel, rfl⟩
theorem eX7_year_210 : Dc cX7_year 210 (.iload_n 3) 1 211 := ⟨by decide +kernel, rfl⟩
theorem eX7_year_211 : Dc cX7_year 211 (.ifCond .ne 8) 3 214 := ⟨by decide +kernel, rfl⟩
theorem eX7_year_214 : Dc cX7_year 214 (.iload 5) 2 216 := ⟨by decide +kernel, rfl⟩
theorem eX7_year_216 : Dc cX7_year 216 (.goto 15) 3 219 := ⟨by decide +kernel, rfl⟩
theorem eX7_year_219 : Dc cX7_year 219 (.iload_n 3) 1 220 := ⟨by decide +kernel, rfl⟩
theorem eX7_year_220 : Dc cX7_year 220 (.iconst 1) 1 221 := ⟨by decide +kernel, rfl⟩
theorem eX7_year_221 : Dc cX7_year 221 (.if_icmp .ne 8) 3 224 := ⟨by decide +kernel, rfl⟩
theorem eX7_year_224 : Dc cX7_year 224 (.iload 6) 2 226 := ⟨by decide +kernel, rfl⟩
theorem eX7_year_226 : Dc cX7_year 226 (.goto 5) 3 229 := ⟨by decide +kernel, rfl⟩
theorem eX7_year_229 : Dc cX7_year 229 (.iload 7) 2 231 := ⟨by decide +kernel, rfl⟩
theorem eX7_year_231 : Dc cX7_year 231 (.ireturn) 1 232 := ⟨by decide +kernel, rfl⟩
def fX7_year_L99 (k : Int32 → Option (Int32 × SS)) (c : SS) (a2 : Int32) (a3 : Int32) (a4 : Int32) (a5 : Int32) (a6 : Int32) (a7 : Int32) (a8 : Int32) : Nat → Int32 → Int32 → Option (Int32 × SS)
  | 0, _, _ => none
  | n + 1, a9, a10 => if (8 : Int32) ≤ a10 then k a9 else jn (fun (x9 : Int32) => fX7_year_L99 k c a2 a3 a4 a5 a6 a7 a8 n (a9 ||| x9) (a10 + (1 : Int32))) (fun j153 => jn (fun (_ : Unit) => j153 (0 : Int32)) (fun j152 => if (fX7_isThere c a10) = (0 : Int32) then j152 () else if ((a4 >>> (a10 &&& 31)) &&& (1 : Int32)) = (1 : Int32) then Option.bind (fX7_rides c a10 (irm (a4 / (256 : Int32)) (4 : Int32))) (fun q12 => if q12 = (0 : Int32) then j152 () else j153 ((1 : Int32) <<< (a10 &&& 31))) else j152 ()))
def fX7_year_L69 (k : Int32 → Int32 → Int32 → Option (Int32 × SS)) (c : SS) (a2 : Int32) (a3 : Int32) : Nat → Int32 → Int32 → Int32 → Int32 → Int32 → Option (Int32 × SS)
  | 0, _, _, _, _, _ => none
  | n + 1, a4, a5, a6, a7, a8 => if a2 ≤ a8 then k a5 a6 a7 else fX7_year_L99 (fun (x14 : Int32) => Option.bind (fX7_goodOf c x14 (irm ((lrm (((75 : Int64) * (a4).toInt64) + (74 : Int64)) (65537 : Int64))).toInt32 (256 : Int32))) (fun q15 => Option.bind (fX7_ones x14) (fun q16 => jn (fun (x17 : Int32) => fX7_year_L69 k c a2 a3 n ((lrm (((75 : Int64) * (a4).toInt64) + (74 : Int64)) (65537 : Int64))).toInt32 (a5 + q15) (a6 + q16) (a7 + x17) (a8 + (1 : Int32))) (fun j201 => if x14 = (0 : Int32) then j201 (1 : Int32) else j201 (0 : Int32))))) c a2 a3 ((lrm (((75 : Int64) * (a4).toInt64) + (74 : Int64)) (65537 : Int64))).toInt32 a5 a6 a7 a8 fu (0 : Int32) (0 : Int32)
def fX7_year (c : SS) (p1 : Int32) (p2 : Int32) (p3 : Int32) : Option (Int32 × SS) := if (fX7_in (p1).toInt64 (0 : Int64) (9999 : Int64)) = (0 : Int32) then some ((-2 : Int32), c) else if (fX7_in (p2).toInt64 (1 : Int64) (99 : Int64)) = (0 : Int32) then some ((-2 : Int32), c) else if (fX7_in (p3).toInt64 (0 : Int64) (2 : Int64)) = (0 : Int32) then some ((-2 : Int32), c) else Option.bind (fX7_isRefused c) (fun q4 => if q4.1 = (0 : Int32) then Option.bind (fX7_findLeaves q4.2) (fun q6 => fX7_year_L69 (fun (x19 : Int32) (x20 : Int32) (x21 : Int32) => if p3 = (0 : Int32) then some (x19, q6) else if p3 = (1 : Int32) then some (x20, q6) else some (x21, q6)) q6 p2 p3 fu p1 (100000 : Int32) (0 : Int32) (0 : Int32) (0 : Int32)) else some ((-5 : Int32), q4.2))
set_option maxRecDepth 20000 in
theorem ctX7_year_L99 (l : Launch) (G : tg_G) (A : Nat → Nat) (k : Int32 → Option (Int32 × SS)) (c : SS) (a2 : Int32) (a3 : Int32) (a4 : Int32) (a5 : Int32) (a6 : Int32) (a7 : Int32) (a8 : Int32) {z : Int32 × SS} (hk : ∀ (e9 : Int32), k e9 = some z → V l G (tg_Zm G (fun v w1 => v = some (.int z.1) ∧ w1 = wM G A z.2) 0 0) tg_E0 (tg_R 4 89) "TramGodModel" "year" cX7_year 11 (some .int) 162 [(0, .ref (A 0)), (2, .int a2), (3, .int a3), (4, .int a4), (5, .int a5), (6, .int a6), (7, .int a7), (8, .int a8), (9, .int e9)] [] (wM G A c) 0 0) : ∀ (n : Nat) (a9 : Int32) (a10 : Int32), fX7_year_L99 k c a2 a3 a4 a5 a6 a7 a8 n a9 a10 = some z → V l G (tg_Zm G (fun v w1 => v = some (.int z.1) ∧ w1 = wM G A z.2) 0 0) tg_E0 (tg_R 4 89) "TramGodModel" "year" cX7_year 11 (some .int) 99 [(0, .ref (A 0)), (2, .int a2), (3, .int a3), (4, .int a4), (5, .int a5), (6, .int a6), (7, .int a7), (8, .int a8), (9, .int a9), (10, .int a10)] [] (wM G A c) 0 0 := by
  intro n
  induction n with
  | zero => intro a9 a10 h; exact absurd h (by simp [fX7_year_L99])
  | succ n ih =>
    intro a9 a10 h
    unfold fX7_year_L99 at h
    refine V_iload eX7_year_99 9 rfl ?_
    refine V_bipush (v := (8 : Int32)) eX7_year_101 rfl ?_
    refine V_icmp_ge (tgt := 162) eX7_year_103 rfl (fun hb8 => ?_) (fun hb8 => ?_)
    · replace h := (if_pos hb8).symm.trans h
      refine V_lv (lv' := [(0, .ref (A 0)), (2, .int a2), (3, .int a3), (4, .int a4), (5, .int a5), (6, .int a6), (7, .int a7), (8, .int a8), (9, .int a9)]) [0, 1, 2, 3, 4, 5, 6, 7, 8] rfl ?_
      exact hk a9 h
    · replace h := (if_neg hb8).symm.trans h
      refine V_iload eX7_year_106 8 rfl ?_
      refine V_aload_n eX7_year_108 0 rfl ?_
      refine V_iload eX7_year_109 9 rfl ?_
      refine V_callVi (rest := [.int a9]) eX7_year_111 (ctX7_isThere l G A c a10 rfl) tc_796 tw_793 tw_8 tw_795 ts_22 0 rfl rfl hdX7_isThere rfl ⟨Nat.le_of_ble_eq_true rfl, Nat.le_of_ble_eq_true rfl⟩ rfl (Nat.le_of_ble_eq_true rfl) ⟨Nat.zero_le _, Nat.zero_le _⟩ ?_
      refine jn_elim h (fun j => ∀ (x9 : Int32), j x9 = some z → V l G (tg_Zm G (fun v w1 => v = some (.int z.1) ∧ w1 = wM G A z.2) 0 0) tg_E0 (tg_R 4 89) "TramGodModel" "year" cX7_year 11 (some .int) 153 [(0, .ref (A 0)), (2, .int a2), (3, .int a3), (4, .int a4), (5, .int a5), (6, .int a6), (7, .int a7), (8, .int a8), (10, .int a10)] [.int x9, .int a9] (wM G A c) 0 0) ?_ (fun j153 hj153 h => ?_)
      · intro x9 h
        refine V_ior eX7_year_153 ?_
        refine V_istore (lv' := [(9, .int (a9 ||| x9)), (0, .ref (A 0)), (2, .int a2), (3, .int a3), (4, .int a4), (5, .int a5), (6, .int a6), (7, .int a7), (8, .int a8), (10, .int a10)]) eX7_year_154 (Nat.le_of_ble_eq_true rfl) rfl ?_
        refine V_iinc (v := (a10 + (1 : Int32))) (lv' := [(10, .int (a10 + (1 : Int32))), (9, .int (a9 ||| x9)), (0, .ref (A 0)), (2, .int a2), (3, .int a3), (4, .int a4), (5, .int a5), (6, .int a6), (7, .int a7), (8, .int a8)]) eX7_year_156 9 rfl rfl (Nat.le_of_ble_eq_true rfl) rfl ?_
        refine V_goto (tgt := 99) eX7_year_159 rfl ?_
        refine V_lv (lv' := [(0, .ref (A 0)), (2, .int a2), (3, .int a3), (4, .int a4), (5, .int a5), (6, .int a6), (7, .int a7), (8, .int a8), (9, .int (a9 ||| x9)), (10, .int (a10 + (1 : Int32)))]) [2, 3, 4, 5, 6, 7, 8, 9, 1, 0] rfl ?_
        exact ih (a9 ||| x9) (a10 + (1 : Int32)) h
      refine jn_elim h (fun j => j () = some z → V l G (tg_Zm G (fun v w1 => v = some (.int z.1) ∧ w1 = wM G A z.2) 0 0) tg_E0 (tg_R 4 89) "TramGodModel" "year" cX7_year 11 (some .int) 152 [(0, .ref (A 0)), (2, .int a2), (3, .int a3), (4, .int a4), (5, .int a5), (6, .int a6), (7, .int a7), (8, .int a8), (10, .int a10)] [.int a9] (wM G A c) 0 0) ?_ (fun j152 hj152 h => ?_)
      · intro h
        refine V_iconst (v := (0 : Int32)) eX7_year_152 rfl ?_
        exact hj153 (0 : Int32) h
      refine V_if_eq (tgt := 152) eX7_year_114 rfl (fun hb10 => ?_) (fun hb10 => ?_)
      · replace h := (if_pos hb10).symm.trans h
        refine V_lv (lv' := [(0, .ref (A 0)), (2, .int a2), (3, .int a3), (4, .int a4), (5, .int a5), (6, .int a6), (7, .int a7), (8, .int a8), (10, .int a10)]) [0, 1, 2, 3, 4, 5, 6, 7, 9] rfl ?_
        exact hj152 h
      · replace h := (if_neg hb10).symm.trans h
        refine V_iload eX7_year_117 3 rfl ?_
        refine V_iload eX7_year_119 9 rfl ?_
        refine V_ishr eX7_year_121 ?_
        refine V_iconst (v := (1 : Int32)) eX7_year_122 rfl ?_
        refine V_iand eX7_year_123 ?_
        refine V_iconst (v := (1 : Int32)) eX7_year_124 rfl ?_
        refine V_icmp_ne (tgt := 152) eX7_year_125 rfl (fun hb11 => ?_) (fun hb11 => ?_)
        · replace h := (if_neg hb11).symm.trans h
          refine V_lv (lv' := [(0, .ref (A 0)), (2, .int a2), (3, .int a3), (4, .int a4), (5, .int a5), (6, .int a6), (7, .int a7), (8, .int a8), (10, .int a10)]) [0, 1, 2, 3, 4, 5, 6, 7, 9] rfl ?_
          exact hj152 h
        · replace h := (if_pos hb11).symm.trans h
          refine V_aload_n eX7_year_128 0 rfl ?_
          refine V_iload eX7_year_129 9 rfl ?_
          refine V_iload eX7_year_131 3 rfl ?_
          refine V_sipush (v := (256 : Int32)) eX7_year_133 rfl ?_
          refine V_idiv eX7_year_136 (by decide) ?_
          refine V_iconst (v := (4 : Int32)) eX7_year_137 rfl ?_
          refine V_irem eX7_year_138 (by decide) ?_
          obtain ⟨q12, hc12, h⟩ := Option.bind_eq_some_iff.mp h
          refine V_callVi (rest := [.int a9]) eX7_year_139 (ctX7_rides l G A c a10 (irm (a4 / (256 : Int32)) (4 : Int32)) hc12) tc_838 tw_835 tw_8 tw_837 ts_28 0 rfl rfl hdX7_rides rfl ⟨Nat.le_of_ble_eq_true rfl, Nat.le_of_ble_eq_true rfl⟩ rfl (Nat.le_of_ble_eq_true rfl) ⟨Nat.zero_le _, Nat.zero_le _⟩ ?_
          refine V_if_eq (tgt := 152) eX7_year_142 rfl (fun hb13 => ?_) (fun hb13 => ?_)
          · replace h := (if_pos hb13).symm.trans h
            refine V_lv (lv' := [(0, .ref (A 0)), (2, .int a2), (3, .int a3), (4, .int a4), (5, .int a5), (6, .int a6), (7, .int a7), (8, .int a8), (10, .int a10)]) [0, 1, 2, 3, 4, 5, 6, 7, 9] rfl ?_
            exact hj152 h
          · replace h := (if_neg hb13).symm.trans h
            refine V_iconst (v := (1 : Int32)) eX7_year_145 rfl ?_
            refine V_iload eX7_year_146 9 rfl ?_
            refine V_ishl eX7_year_148 ?_
            refine V_goto (tgt := 153) eX7_year_149 rfl ?_
            refine V_lv (lv' := [(0, .ref (A 0)), (2, .int a2), (3, .int a3), (4, .int a4), (5, .int a5), (6, .int a6), (7, .int a7), (8, .int a8), (10, .int a10)]) [0, 1, 2, 3, 4, 5, 6, 7, 9] rfl ?_
            exact hj153 ((1 : Int32) <<< (a10 &&& 31)) h
set_option maxRecDepth 20000 in
theorem ctX7_year_L69 (l : Launch) (G : tg_G) (A : Nat → Nat) (k : Int32 → Int32 → Int32 → Option (Int32 × SS)) (c : SS) (a2 : Int32) (a3 : Int32) {z : Int32 × SS} (hk : ∀ (e5 : Int32) (e6 : Int32) (e7 : Int32), k e5 e6 e7 = some z → V l G (tg_Zm G (fun v w1 => v = some (.int z.1) ∧ w1 = wM G A z.2) 0 0) tg_E0 (tg_R 4 89) "TramGodModel" "year" cX7_year 11 (some .int) 210 [(3, .int a3), (5, .int e5), (6, .int e6), (7, .int e7)] [] (wM G A c) 0 0) : ∀ (n : Nat) (a4 : Int32) (a5 : Int32) (a6 : Int32) (a7 : Int32) (a8 : Int32), fX7_year_L69 k c a2 a3 n a4 a5 a6 a7 a8 = some z → V l G (tg_Zm G (fun v w1 => v = some (.int z.1) ∧ w1 = wM G A z.2) 0 0) tg_E0 (tg_R 4 89) "TramGodModel" "year" cX7_year 11 (some .int) 69 [(0, .ref (A 0)), (2, .int a2), (3, .int a3), (4, .int a4), (5, .int a5), (6, .int a6), (7, .int a7), (8, .int a8)] [] (wM G A c) 0 0 := by
  intro n
  induction n with
  | zero => intro a4 a5 a6 a7 a8 h; exact absurd h (by simp [fX7_year_L69])
  | succ n ih =>
    intro a4 a5 a6 a7 a8 h
    unfold fX7_year_L69 at h
    refine V_iload eX7_year_69 7 rfl ?_
    refine V_iload_n eX7_year_71 1 rfl ?_
    refine V_icmp_ge (tgt := 210) eX7_year_72 rfl (fun hb7 => ?_) (fun hb7 => ?_)
    · replace h := (if_pos hb7).symm.trans h
      refine V_lv (lv' := [(3, .int a3), (5, .int a5), (6, .int a6), (7, .int a7)]) [2, 4, 5, 6] rfl ?_
      exact hk a5 a6 a7 h
    · replace h := (if_neg hb7).symm.trans h
      refine V_ldc2 eX7_year_75 tw_999 ?_
      refine V_iload eX7_year_78 3 rfl ?_
      refine V_i2l eX7_year_80 ?_
      refine V_lmul eX7_year_81 ?_
      refine V_ldc2 eX7_year_82 tw_1000 ?_
      refine V_ladd eX7_year_85 ?_
      refine V_ldc2 eX7_year_86 tw_1001 ?_
      refine V_lrem eX7_year_89 (by decide) ?_
      refine V_l2i eX7_year_90 ?_
      refine V_istore (lv' := [(4, .int ((lrm (((75 : Int64) * (a4).toInt64) + (74 : Int64)) (65537 : Int64))).toInt32), (0, .ref (A 0)), (2, .int a2), (3, .int a3), (5, .int a5), (6, .int a6), (7, .int a7), (8, .int a8)]) eX7_year_91 (Nat.le_of_ble_eq_true rfl) rfl ?_
      refine V_iconst (v := (0 : Int32)) eX7_year_93 rfl ?_
      refine V_istore (lv' := [(9, .int (0 : Int32)), (4, .int ((lrm (((75 : Int64) * (a4).toInt64) + (74 : Int64)) (65537 : Int64))).toInt32), (0, .ref (A 0)), (2, .int a2), (3, .int a3), (5, .int a5), (6, .int a6), (7, .int a7), (8, .int a8)]) eX7_year_94 (Nat.le_of_ble_eq_true rfl) rfl ?_
      refine V_iconst (v := (0 : Int32)) eX7_year_96 rfl ?_
      refine V_istore (lv' := [(10, .int (0 : Int32)), (9, .int (0 : Int32)), (4, .int ((lrm (((75 : Int64) * (a4).toInt64) + (74 : Int64)) (65537 : Int64))).toInt32), (0, .ref (A 0)), (2, .int a2), (3, .int a3), (5, .int a5), (6, .int a6), (7, .int a7), (8, .int a8)]) eX7_year_97 (Nat.le_of_ble_eq_true rfl) rfl ?_
      refine V_lv (lv' := [(0, .ref (A 0)), (2, .int a2), (3, .int a3), (4, .int ((lrm (((75 : Int64) * (a4).toInt64) + (74 : Int64)) (65537 : Int64))).toInt32), (5, .int a5), (6, .int a6), (7, .int a7), (8, .int a8), (9, .int (0 : Int32)), (10, .int (0 : Int32))]) [3, 4, 5, 2, 6, 7, 8, 9, 1, 0] rfl ?_
      refine ctX7_year_L99 l G A _ c a2 a3 ((lrm (((75 : Int64) * (a4).toInt64) + (74 : Int64)) (65537 : Int64))).toInt32 a5 a6 a7 a8 ?_ fu (0 : Int32) (0 : Int32) h
      · intro x14 h
        refine V_iload eX7_year_162 4 rfl ?_
        refine V_aload_n eX7_year_164 0 rfl ?_
        refine V_iload eX7_year_165 8 rfl ?_
        refine V_iload eX7_year_167 3 rfl ?_
        refine V_sipush (v := (256 : Int32)) eX7_year_169 rfl ?_
        refine V_irem eX7_year_172 (by decide) ?_
        obtain ⟨q15, hc15, h⟩ := Option.bind_eq_some_iff.mp h
        refine V_callVi (rest := [.int a5]) eX7_year_173 (ctX7_goodOf l G A c x14 (irm ((lrm (((75 : Int64) * (a4).toInt64) + (74 : Int64)) (65537 : Int64))).toInt32 (256 : Int32)) hc15) tc_846 tw_843 tw_8 tw_845 ts_29 0 rfl rfl hdX7_goodOf rfl ⟨Nat.le_of_ble_eq_true rfl, Nat.le_of_ble_eq_true rfl⟩ rfl (Nat.le_of_ble_eq_true rfl) ⟨Nat.zero_le _, Nat.zero_le _⟩ ?_
        refine V_iadd eX7_year_176 ?_
        refine V_istore (lv' := [(5, .int (a5 + q15)), (0, .ref (A 0)), (2, .int a2), (3, .int a3), (4, .int ((lrm (((75 : Int64) * (a4).toInt64) + (74 : Int64)) (65537 : Int64))).toInt32), (6, .int a6), (7, .int a7), (8, .int a8), (9, .int x14)]) eX7_year_177 (Nat.le_of_ble_eq_true rfl) rfl ?_
        refine V_iload eX7_year_179 5 rfl ?_
        refine V_iload eX7_year_181 8 rfl ?_
        obtain ⟨q16, hc16, h⟩ := Option.bind_eq_some_iff.mp h
        refine V_callSi (rest := [.int a6]) eX7_year_183 (ctX7_ones l G _ x14 hc16) tc_788 tw_786 tw_8 tw_787 hdX7_ones rfl ⟨Nat.le_of_ble_eq_true rfl, Nat.le_of_ble_eq_true rfl⟩ rfl (Nat.le_of_ble_eq_true rfl) ⟨Nat.zero_le _, Nat.zero_le _⟩ ?_
        refine V_iadd eX7_year_186 ?_
        refine V_istore (lv' := [(6, .int (a6 + q16)), (5, .int (a5 + q15)), (0, .ref (A 0)), (2, .int a2), (3, .int a3), (4, .int ((lrm (((75 : Int64) * (a4).toInt64) + (74 : Int64)) (65537 : Int64))).toInt32), (7, .int a7), (8, .int a8), (9, .int x14)]) eX7_year_187 (Nat.le_of_ble_eq_true rfl) rfl ?_
        refine V_iload eX7_year_189 6 rfl ?_
        refine V_iload eX7_year_191 8 rfl ?_
        refine jn_elim h (fun j => ∀ (x17 : Int32), j x17 = some z → V l G (tg_Zm G (fun v w1 => v = some (.int z.1) ∧ w1 = wM G A z.2) 0 0) tg_E0 (tg_R 4 89) "TramGodModel" "year" cX7_year 11 (some .int) 201 [(0, .ref (A 0)), (2, .int a2), (3, .int a3), (4, .int ((lrm (((75 : Int64) * (a4).toInt64) + (74 : Int64)) (65537 : Int64))).toInt32), (5, .int (a5 + q15)), (6, .int (a6 + q16)), (8, .int a8)] [.int x17, .int a7] (wM G A c) 0 0) ?_ (fun j201 hj201 h => ?_)
        · intro x17 h
          refine V_iadd eX7_year_201 ?_
          refine V_istore (lv' := [(7, .int (a7 + x17)), (0, .ref (A 0)), (2, .int a2), (3, .int a3), (4, .int ((lrm (((75 : Int64) * (a4).toInt64) + (74 : Int64)) (65537 : Int64))).toInt32), (5, .int (a5 + q15)), (6, .int (a6 + q16)), (8, .int a8)]) eX7_year_202 (Nat.le_of_ble_eq_true rfl) rfl ?_
          refine V_iinc (v := (a8 + (1 : Int32))) (lv' := [(8, .int (a8 + (1 : Int32))), (7, .int (a7 + x17)), (0, .ref (A 0)), (2, .int a2), (3, .int a3), (4, .int ((lrm (((75 : Int64) * (a4).toInt64) + (74 : Int64)) (65537 : Int64))).toInt32), (5, .int (a5 + q15)), (6, .int (a6 + q16))]) eX7_year_204 7 rfl rfl (Nat.le_of_ble_eq_true rfl) rfl ?_
          refine V_goto (tgt := 69) eX7_year_207 rfl ?_
          refine V_lv (lv' := [(0, .ref (A 0)), (2, .int a2), (3, .int a3), (4, .int ((lrm (((75 : Int64) * (a4).toInt64) + (74 : Int64)) (65537 : Int64))).toInt32), (5, .int (a5 + q15)), (6, .int (a6 + q16)), (7, .int (a7 + x17)), (8, .int (a8 + (1 : Int32)))]) [2, 3, 4, 5, 6, 7, 1, 0] rfl ?_
          exact ih ((lrm (((75 : Int64) * (a4).toInt64) + (74 : Int64)) (65537 : Int64))).toInt32 (a5 + q15) (a6 + q16) (a7 + x17) (a8 + (1 : Int32)) h
        refine V_if_ne (tgt := 200) eX7_year_193 rfl (fun hb18 => ?_) (fun hb18 => ?_)
        · replace h := (if_neg hb18).symm.trans h
          refine V_iconst (v := (0 : Int32)) eX7_year_200 rfl ?_
          refine V_lv (lv' := [(0, .ref (A 0)), (2, .int a2), (3, .int a3), (4, .int ((lrm (((75 : Int64) * (a4).toInt64) + (74 : Int64)) (65537 : Int64))).toInt32), (5, .int (a5 + q15)), (6, .int (a6 + q16)), (8, .int a8)]) [2, 3, 4, 5, 1, 0, 7] rfl ?_
          exact hj201 (0 : Int32) h
        · replace h := (if_pos hb18).symm.trans h
          refine V_iconst (v := (1 : Int32)) eX7_year_196 rfl ?_
          refine V_goto (tgt := 201) eX7_year_197 rfl ?_
          refine V_lv (lv' := [(0, .ref (A 0)), (2, .int a2), (3, .int a3), (4, .int ((lrm (((75 : Int64) * (a4).toInt64) + (74 : Int64)) (65537 : Int64))).toInt32), (5, .int (a5 + q15)), (6, .int (a6 + q16)), (8, .int a8)]) [2, 3, 4, 5, 1, 0, 7] rfl ?_
          exact hj201 (1 : Int32) h
set_option maxRecDepth 20000 in
theorem ctX7_year (l : Launch) (G : tg_G) (A : Nat → Nat) (c : SS) (p1 : Int32) (p2 : Int32) (p3 : Int32) {z : Int32 × SS} (h : fX7_year c p1 p2 p3 = some z) : Mt l G yX7_year cX7_year 11 (some .int) (tg_R 4 89) [.ref (A 0), .int p1, .int p2, .int p3] (wM G A c) (fun v w1 => v = some (.int z.1) ∧ w1 = wM G A z.2) := by
  refine Mt_of2 (own := "TramGodModel") (nm := "year") rfl rfl rfl (Nat.le_of_ble_eq_true rfl) (lv := [(0, .ref (A 0)), (1, .int p1), (2, .int p2), (3, .int p3)]) rfl ?_
  unfold fX7_year at h
  refine V_iload_n eX7_year_0 1 rfl ?_
  refine V_i2l eX7_year_1 ?_
  refine V_lconst (v := (0 : Int64)) eX7_year_2 rfl ?_
  refine V_ldc2 eX7_year_3 tw_997 ?_
  refine V_callSi (rest := []) eX7_year_6 (ctX7_in l G _ (p1).toInt64 (0 : Int64) (9999 : Int64) rfl) tc_748 tw_746 tw_8 tw_747 hdX7_in rfl ⟨Nat.le_of_ble_eq_true rfl, Nat.le_of_ble_eq_true rfl⟩ rfl (Nat.le_of_ble_eq_true rfl) ⟨Nat.zero_le _, Nat.zero_le _⟩ ?_
  refine V_if_eq (tgt := 36) eX7_year_9 rfl (fun hb1 => ?_) (fun hb1 => ?_)
  · replace h := (if_pos hb1).symm.trans h
    refine V_bipush (v := (-2 : Int32)) eX7_year_36 rfl ?_
    obtain rfl := Option.some.inj h
    exact V_ret eX7_year_38 rfl ⟨rfl, rfl⟩
  · replace h := (if_neg hb1).symm.trans h
    refine V_iload_n eX7_year_12 2 rfl ?_
    refine V_i2l eX7_year_13 ?_
    refine V_lconst (v := (1 : Int64)) eX7_year_14 rfl ?_
    refine V_ldc2 eX7_year_15 tw_780 ?_
    refine V_callSi (rest := []) eX7_year_18 (ctX7_in l G _ (p2).toInt64 (1 : Int64) (99 : Int64) rfl) tc_748 tw_746 tw_8 tw_747 hdX7_in rfl ⟨Nat.le_of_ble_eq_true rfl, Nat.le_of_ble_eq_true rfl⟩ rfl (Nat.le_of_ble_eq_true rfl) ⟨Nat.zero_le _, Nat.zero_le _⟩ ?_
    refine V_if_eq (tgt := 36) eX7_year_21 rfl (fun hb2 => ?_) (fun hb2 => ?_)
    · replace h := (if_pos hb2).symm.trans h
      refine V_bipush (v := (-2 : Int32)) eX7_year_36 rfl ?_
      obtain rfl := Option.some.inj h
      exact V_ret eX7_year_38 rfl ⟨rfl, rfl⟩
    · replace h := (if_neg hb2).symm.trans h
      refine V_iload_n eX7_year_24 3 rfl ?_
      refine V_i2l eX7_year_25 ?_
      refine V_lconst (v := (0 : Int64)) eX7_year_26 rfl ?_
      refine V_ldc2 eX7_year_27 tw_919 ?_
      refine V_callSi (rest := []) eX7_year_30 (ctX7_in l G _ (p3).toInt64 (0 : Int64) (2 : Int64) rfl) tc_748 tw_746 tw_8 tw_747 hdX7_in rfl ⟨Nat.le_of_ble_eq_true rfl, Nat.le_of_ble_eq_true rfl⟩ rfl (Nat.le_of_ble_eq_true rfl) ⟨Nat.zero_le _, Nat.zero_le _⟩ ?_
      refine V_if_ne (tgt := 39) eX7_year_33 rfl (fun hb3 => ?_) (fun hb3 => ?_)
      · replace h := (if_neg hb3).symm.trans h
        refine V_aload_n eX7_year_39 0 rfl ?_
        obtain ⟨q4, hc4, h⟩ := Option.bind_eq_some_iff.mp h
        refine V_callVi (rest := []) eX7_year_40 (ctX7_isRefused l G A c hc4) tc_826 tw_823 tw_8 tw_825 ts_25 0 rfl rfl hdX7_isRefused rfl ⟨Nat.le_of_ble_eq_true rfl, Nat.le_of_ble_eq_true rfl⟩ rfl (Nat.le_of_ble_eq_true rfl) ⟨Nat.zero_le _, Nat.zero_le _⟩ ?_
        refine V_if_eq (tgt := 49) eX7_year_43 rfl (fun hb5 => ?_) (fun hb5 => ?_)
        · replace h := (if_pos hb5).symm.trans h
          refine V_aload_n eX7_year_49 0 rfl ?_
          obtain ⟨q6, hc6, h⟩ := Option.bind_eq_some_iff.mp h
          refine V_callVv (rest := []) eX7_year_50 (ctX7_findLeaves l G A q4.2 hc6) tc_834 tw_831 tw_8 tw_833 ts_27 0 rfl rfl hdX7_findLeaves rfl ⟨Nat.le_of_ble_eq_true rfl, Nat.le_of_ble_eq_true rfl⟩ rfl (Nat.le_of_ble_eq_true rfl) ⟨Nat.zero_le _, Nat.zero_le _⟩ ?_
          refine V_iload_n eX7_year_53 1 rfl ?_
          refine V_istore (lv' := [(4, .int p1), (0, .ref (A 0)), (1, .int p1), (2, .int p2), (3, .int p3)]) eX7_year_54 (Nat.le_of_ble_eq_true rfl) rfl ?_
          refine V_ldc eX7_year_56 tw_998 ?_
          refine V_istore (lv' := [(5, .int (100000 : Int32)), (4, .int p1), (0, .ref (A 0)), (1, .int p1), (2, .int p2), (3, .int p3)]) eX7_year_58 (Nat.le_of_ble_eq_true rfl) rfl ?_
          refine V_iconst (v := (0 : Int32)) eX7_year_60 rfl ?_
          refine V_istore (lv' := [(6, .int (0 : Int32)), (5, .int (100000 : Int32)), (4, .int p1), (0, .ref (A 0)), (1, .int p1), (2, .int p2), (3, .int p3)]) eX7_year_61 (Nat.le_of_ble_eq_true rfl) rfl ?_
          refine V_iconst (v := (0 : Int32)) eX7_year_63 rfl ?_
          refine V_istore (lv' := [(7, .int (0 : Int32)), (6, .int (0 : Int32)), (5, .int (100000 : Int32)), (4, .int p1), (0, .ref (A 0)), (1, .int p1), (2, .int p2), (3, .int p3)]) eX7_year_64 (Nat.le_of_ble_eq_true rfl) rfl ?_
          refine V_iconst (v := (0 : Int32)) eX7_year_66 rfl ?_
          refine V_istore (lv' := [(8, .int (0 : Int32)), (7, .int (0 : Int32)), (6, .int (0 : Int32)), (5, .int (100000 : Int32)), (4, .int p1), (0, .ref (A 0)), (1, .int p1), (2, .int p2), (3, .int p3)]) eX7_year_67 (Nat.le_of_ble_eq_true rfl) rfl ?_
          refine V_lv (lv' := [(0, .ref (A 0)), (2, .int p2), (3, .int p3), (4, .int p1), (5, .int (100000 : Int32)), (6, .int (0 : Int32)), (7, .int (0 : Int32)), (8, .int (0 : Int32))]) [5, 7, 8, 4, 3, 2, 1, 0] rfl ?_
          refine ctX7_year_L69 l G A _ q6 p2 p3 ?_ fu p1 (100000 : Int32) (0 : Int32) (0 : Int32) (0 : Int32) h
          · intro x19 x20 x21 h
            refine V_iload_n eX7_year_210 0 rfl ?_
            refine V_if_ne (tgt := 219) eX7_year_211 rfl (fun hb22 => ?_) (fun hb22 => ?_)
            · replace h := (if_neg hb22).symm.trans h
              refine V_iload_n eX7_year_219 0 rfl ?_
              refine V_iconst (v := (1 : Int32)) eX7_year_220 rfl ?_
              refine V_icmp_ne (tgt := 229) eX7_year_221 rfl (fun hb23 => ?_) (fun hb23 => ?_)
              · replace h := (if_neg hb23).symm.trans h
                refine V_iload eX7_year_229 3 rfl ?_
                obtain rfl := Option.some.inj h
                exact V_ret eX7_year_231 rfl ⟨rfl, rfl⟩
              · replace h := (if_pos hb23).symm.trans h
                refine V_iload eX7_year_224 2 rfl ?_
                refine V_goto (tgt := 231) eX7_year_226 rfl ?_
                obtain rfl := Option.some.inj h
                exact V_ret eX7_year_231 rfl ⟨rfl, rfl⟩
            · replace h := (if_pos hb22).symm.trans h
              refine V_iload eX7_year_214 1 rfl ?_
              refine V_goto (tgt := 231) eX7_year_216 rfl ?_
              obtain rfl := Option.some.inj h
              exact V_ret eX7_year_231 rfl ⟨rfl, rfl⟩
        · replace h := (if_neg hb5).symm.trans h
          refine V_bipush (v := (-5 : Int32)) eX7_year_46 rfl ?_
          obtain rfl := Option.some.inj h
          exact V_ret eX7_year_48 rfl ⟨rfl, rfl⟩
      · replace h := (if_pos hb3).symm.trans h
        refine V_bipush (v := (-2 : Int32)) eX7_year_36 rfl ?_
        obtain rfl := Option.some.inj h
        exact V_ret eX7_year_38 rfl ⟨rfl, rfl⟩
theorem hdX7_pass : yX7_pass.cls ≠ "java/lang/invoke/MethodHandle" ∧ yX7_pass.cls ≠ "java/lang/invoke/VarHandle" ∧ (parseMethodDescriptor yX7_pass.desc).map (fun d => d.parameters.length) = some 1 := by decide +kernel
theorem eX7_pass_0 : Dc cX7_pass 0 (.aload_n 0) 1 1 := ⟨by decide +kernel, rfl⟩
theorem eX7_pass_1 : Dc cX7_pass 1 (.getfield 261) 3 4 := ⟨by decide +kernel, rfl⟩
theorem eX7_pass_4 : Dc cX7_pass 4 (.ifCond .eq 7) 3 7 := ⟨by decide +kernel, rfl⟩
theorem eX7_pass_7 : Dc cX7_pass 7 (.iload_n 1) 1 8 := ⟨by decide +kernel, rfl⟩
theorem eX7_pass_8 : Dc cX7_pass 8 (.goto 12) 3 11 := ⟨by decide +kernel, rfl⟩
theorem eX7_pass_11 : Dc cX7_pass 11 (.aload_n 0) 1 12 := ⟨by decide +kernel, rfl⟩
theorem eX7_pass_12 : Dc cX7_pass 12 (.getfield 62) 3 15 := ⟨by decide +kernel, rfl⟩
theorem eX7_pass_15 : Dc cX7_pass 15 (.aload_n 0) 1 16 := ⟨by decide +kernel, rfl⟩
theorem eX7_pass_16 : Dc cX7_pass 16 (.getfield 265) 3 19 := ⟨by decide +kernel, rfl⟩
theorem eX7_pass_19 : Dc cX7_pass 19 (.iaload) 1 20 := ⟨by decide +kernel, rfl⟩
theorem eX7_pass_20 : Dc cX7_pass 20 (.istore_n 2) 1 21 := ⟨by decide +kernel, rfl⟩
theorem eX7_pass_21 : Dc cX7_pass 21 (.aload_n 0) 1 22 := ⟨by decide +kernel, rfl⟩
theorem eX7_pass_22 : Dc cX7_pass 22 (.getfield 62) 3 25 := ⟨by decide +kernel, rfl⟩
theorem eX7_pass_25 : Dc cX7_pass 25 (.aload_n 0) 1 26 := ⟨by decide +kernel, rfl⟩
theorem eX7_pass_26 : Dc cX7_pass 26 (.getfield 265) 3 29 := ⟨by decide +kernel, rfl⟩
theorem eX7_pass_29 : Dc cX7_pass 29 (.iload_n 2) 1 30 := ⟨by decide +kernel, rfl⟩
theorem eX7_pass_30 : Dc cX7_pass 30 (.iastore) 1 31 := ⟨by decide +kernel, rfl⟩
theorem eX7_pass_31 : Dc cX7_pass 31 (.aload_n 0) 1 32 := ⟨by decide +kernel, rfl⟩
theorem eX7_pass_32 : Dc cX7_pass 32 (.dup) 1 33 := ⟨by decide +kernel, rfl⟩
theorem eX7_pass_33 : Dc cX7_pass 33 (.getfield 265) 3 36 := ⟨by decide +kernel, rfl⟩
theorem eX7_pass_36 : Dc cX7_pass 36 (.iconst 1) 1 37 := ⟨by decide +kernel, rfl⟩
theorem eX7_pass_37 : Dc cX7_pass 37 (.iadd) 1 38 := ⟨by decide +kernel, rfl⟩
theorem eX7_pass_38 : Dc cX7_pass 38 (.putfield 265) 3 41 := ⟨by decide +kernel, rfl⟩
theorem eX7_pass_41 : Dc cX7_pass 41 (.iload_n 2) 1 42 := ⟨by decide +kernel, rfl⟩
theorem eX7_pass_42 : Dc cX7_pass 42 (.ireturn) 1 43 := ⟨by decide +kernel, rfl⟩
def fX7_pass (c : SS) (p1 : Int32) : Option (Int32 × SS) := jn (fun (x1 : Int32) => ckb 180 (c.1 29) (some (x1, (sF (sA c 27 ((c.1 29)).toNatClampNeg x1) 29 ((c.1 29) + (1 : Int32)))))) (fun j20 => if (c.1 30) = (0 : Int32) then ald 180 (c.2 27) (c.1 29) (fun v4 => j20 v4) else j20 p1)
set_option maxRecDepth 20000 in
theorem ctX7_pass (l : Launch) (G : tg_G) (A : Nat → Nat) (c : SS) (p1 : Int32) {z : Int32 × SS} (h : fX7_pass c p1 = some z) : Mt l G yX7_pass cX7_pass 3 (some .int) (tg_R 0 0) [.ref (A 0), .int p1] (wM G A c) (fun v w1 => v = some (.int z.1) ∧ w1 = wM G A z.2) := by
  refine Mt_of2 (own := "TramGodModel") (nm := "pass") rfl rfl rfl (Nat.le_of_ble_eq_true rfl) (lv := [(0, .ref (A 0)), (1, .int p1)]) rfl ?_
  unfold fX7_pass at h
  refine V_aload_n eX7_pass_0 0 rfl ?_
  refine V_get (v := .int (c.1 30)) eX7_pass_1 inX7 0 rfl rfl 30 (Nat.le_of_ble_eq_true rfl) tw_675 rfl ?_
  refine jn_elim h (fun j => ∀ (x1 : Int32), j x1 = some z → V l G (tg_Zm G (fun v w1 => v = some (.int z.1) ∧ w1 = wM G A z.2) 0 0) tg_E0 (tg_R 0 0) "TramGodModel" "pass" cX7_pass 3 (some .int) 20 [(0, .ref (A 0))] [.int x1] (wM G A c) 0 0) ?_ (fun j20 hj20 h => ?_)
  · intro x1 h
    refine V_istore_n (lv' := [(2, .int x1), (0, .ref (A 0))]) eX7_pass_20 (Nat.le_of_ble_eq_true rfl) rfl ?_
    refine V_aload_n eX7_pass_21 1 rfl ?_
    refine V_get (v := .ref (A 18)) eX7_pass_22 inX7 0 rfl rfl 27 (Nat.le_of_ble_eq_true rfl) tw_672 rfl ?_
    refine V_aload_n eX7_pass_25 1 rfl ?_
    refine V_get (v := .int (c.1 29)) eX7_pass_26 inX7 0 rfl rfl 29 (Nat.le_of_ble_eq_true rfl) tw_674 rfl ?_
    refine V_iload_n eX7_pass_29 0 rfl ?_
    obtain ⟨hi2, h⟩ := ckb_some h
    refine V_iast (w' := wM G A (sA c 27 ((c.1 29)).toNatClampNeg x1)) eX7_pass_30 18 rfl hi2 rfl ?_
    refine V_aload_n eX7_pass_31 1 rfl ?_
    refine V_dup eX7_pass_32 rfl ?_
    refine V_get (v := .int (c.1 29)) eX7_pass_33 inX7 0 rfl rfl 29 (Nat.le_of_ble_eq_true rfl) tw_674 rfl ?_
    refine V_iconst (v := (1 : Int32)) eX7_pass_36 rfl ?_
    refine V_iadd eX7_pass_37 ?_
    refine V_put (w' := wM G A (sF (sA c 27 ((c.1 29)).toNatClampNeg x1) 29 ((c.1 29) + (1 : Int32)))) eX7_pass_38 inX7 tyX7 tyX7_ok nmX7 0 rfl rfl 29 (Nat.le_of_ble_eq_true rfl) tw_674 rfl rfl rfl rfl (Nat.le_of_ble_eq_true rfl) rfl ?_
    refine V_iload_n eX7_pass_41 0 rfl ?_
    obtain rfl := Option.some.inj h
    exact V_ret eX7_pass_42 rfl ⟨rfl, rfl⟩
  refine V_if_eq (tgt := 11) eX7_pass_4 rfl (fun hb3 => ?_) (fun hb3 => ?_)
  · replace h := (if_pos hb3).symm.trans h
    refine V_aload_n eX7_pass_11 0 rfl ?_
    refine V_get (v := .ref (A 18)) eX7_pass_12 inX7 0 rfl rfl 27 (Nat.le_of_ble_eq_true rfl) tw_672 rfl ?_
    refine V_aload_n eX7_pass_15 0 rfl ?_
    refine V_get (v := .int (c.1 29)) eX7_pass_16 inX7 0 rfl rfl 29 (Nat.le_of_ble_eq_true rfl) tw_674 rfl ?_
    obtain ⟨v4, hi4, ev4, h⟩ := ald_some h
    refine V_ialdv eX7_pass_19 18 rfl hi4 ev4 ?_
    refine V_lv (lv' := [(0, .ref (A 0))]) [0] rfl ?_
    exact hj20 v4 h
  · replace h := (if_neg hb3).symm.trans h
    refine V_iload_n eX7_pass_7 1 rfl ?_
    refine V_goto (tgt := 20) eX7_pass_8 rfl ?_
    refine V_lv (lv' := [(0, .ref (A 0))]) [0] rfl ?_
    exact hj20 p1 h
theorem hdX7_passAll : yX7_passAll.cls ≠ "java/lang/invoke/MethodHandle" ∧ yX7_passAll.cls ≠ "java/lang/invoke/VarHandle" ∧ (parseMethodDescriptor yX7_passAll.desc).map (fun d => d.parameters.length) = some 0 := by decide +kernel
theorem eX7_passAll_0 : Dc cX7_passAll 0 (.aload_n 0) 1 1 := ⟨by decide +kernel, rfl⟩
theorem eX7_passAll_1 : Dc cX7_passAll 1 (.aload_n 0) 1 2 := ⟨by decide +kernel, rfl⟩
theorem eX7_passAll_2 : Dc cX7_passAll 2 (.aload_n 0) 1 3 := ⟨by decide +kernel, rfl⟩
theorem eX7_passAll_3 : Dc cX7_passAll 3 (.getfield 69) 3 6 := ⟨by decide +kernel, rfl⟩
theorem eX7_passAll_6 : Dc cX7_passAll 6 (.invokevirtual 268) 3 9 := ⟨by decide +kernel, rfl⟩
theorem eX7_passAll_9 : Dc cX7_passAll 9 (.putfield 69) 3 12 := ⟨by decide +kernel, rfl⟩
theorem eX7_passAll_12 : Dc cX7_passAll 12 (.aload_n 0) 1 13 := ⟨by decide +kernel, rfl⟩
theorem eX7_passAll_13 : Dc cX7_passAll 13 (.aload_n 0) 1 14 := ⟨by decide +kernel, rfl⟩
theorem eX7_passAll_14 : Dc cX7_passAll 14 (.aload_n 0) 1 15 := ⟨by decide +kernel, rfl⟩
theorem eX7_passAll_15 : Dc cX7_passAll 15 (.getfield 83) 3 18 := ⟨by decide +kernel, rfl⟩
theorem eX7_passAll_18 : Dc cX7_passAll 18 (.invokevirtual 268) 3 21 := ⟨by decide +kernel, rfl⟩
theorem eX7_passAll_21 : Dc cX7_passAll 21 (.putfield 83) 3 24 := ⟨by decide +kernel, rfl⟩
theorem eX7_passAll_24 : Dc cX7_passAll 24 (.aload_n 0) 1 25 := ⟨by decide +kernel, rfl⟩
theorem eX7_passAll_25 : Dc cX7_passAll 25 (.aload_n 0) 1 26 := ⟨by decide +kernel, rfl⟩
theorem eX7_passAll_26 : Dc cX7_passAll 26 (.aload_n 0) 1 27 := ⟨by decide +kernel, rfl⟩
theorem eX7_passAll_27 : Dc cX7_passAll 27 (.getfield 88) 3 30 := ⟨by decide +kernel, rfl⟩
theorem eX7_passAll_30 : Dc cX7_passAll 30 (.invokevirtual 268) 3 33 := ⟨by decide +kernel, rfl⟩
theorem eX7_passAll_33 : Dc cX7_passAll 33 (.putfield 88) 3 36 := ⟨by decide +kernel, rfl⟩
theorem eX7_passAll_36 : Dc cX7_passAll 36 (.aload_n 0) 1 37 := ⟨by decide +kernel, rfl⟩
theorem eX7_passAll_37 : Dc cX7_passAll 37 (.aload_n 0) 1 38 := ⟨by decide +kernel, rfl⟩
theorem eX7_passAll_38 : Dc cX7_passAll 38 (.aload_n 0) 1 39 := ⟨by decide +kernel, rfl⟩
theorem eX7_passAll_39 : Dc cX7_passAll 39 (.getfield 73) 3 42 := ⟨by decide +kernel, rfl⟩
theorem eX7_passAll_42 : Dc cX7_passAll 42 (.invokevirtual 268) 3 45 := ⟨by decide +kernel, rfl⟩
theorem eX7_passAll_45 : Dc cX7_passAll 45 (.putfield 73) 3 48 := ⟨by decide +kernel, rfl⟩
theorem eX7_passAll_48 : Dc cX7_passAll 48 (.aload_n 0) 1 49 := ⟨by decide +kernel, rfl⟩
theorem eX7_passAll_49 : Dc cX7_passAll 49 (.aload_n 0) 1 50 := ⟨by decide +kernel, rfl⟩
theorem eX7_passAll_50 : Dc cX7_passAll 50 (.aload_n 0) 1 51 := ⟨by decide +kernel, rfl⟩
theorem eX7_passAll_51 : Dc cX7_passAll 51 (.getfield 76) 3 54 := ⟨by decide +kernel, rfl⟩
theorem eX7_passAll_54 : Dc cX7_passAll 54 (.invokevirtual 268) 3 57 := ⟨by decide +kernel, rfl⟩
theorem eX7_passAll_57 : Dc cX7_passAll 57 (.putfield 76) 3 60 := ⟨by decide +kernel, rfl⟩
theorem eX7_passAll_60 : Dc cX7_passAll 60 (.aload_n 0) 1 61 := ⟨by decide +kernel, rfl⟩
theorem eX7_passAll_61 : Dc cX7_passAll 61 (.aload_n 0) 1 62 := ⟨by decide +kernel, rfl⟩
theorem eX7_passAll_62 : Dc cX7_passAll 62 (.aload_n 0) 1 63 := ⟨by decide +kernel, rfl⟩
theorem eX7_passAll_63 : Dc cX7_passAll 63 (.getfield 106) 3 66 := ⟨by decide +kernel, rfl⟩
theorem eX7_passAll_66 : Dc cX7_passAll 66 (.invokevirtual 268) 3 69 := ⟨by decide +kernel, rfl⟩
theorem eX7_passAll_69 : Dc cX7_passAll 69 (.putfield 106) 3 72 := ⟨by decide +kernel, rfl⟩
theorem eX7_passAll_72 : Dc cX7_passAll 72 (.iconst 0) 1 73 := ⟨by decide +kernel, rfl⟩
theorem eX7_passAll_73 : Dc cX7_passAll 73 (.istore_n 1) 1 74 := ⟨by decide +kernel, rfl⟩
theorem eX7_passAll_74 : Dc cX7_passAll 74 (.iload_n 1) 1 75 := ⟨by decide +kernel, rfl⟩
theorem eX7_passAll_75 : Dc cX7_passAll 75 (.bipush 6) 2 77 := ⟨by decide +kernel, rfl⟩
theorem eX7_passAll_77 : Dc cX7_passAll 77 (.if_icmp .ge 25) 3 80 := ⟨by decide +kernel, rfl⟩
theorem eX7_passAll_80 : Dc cX7_passAll 80 (.aload_n 0) 1 81 := ⟨by decide +kernel, rfl⟩
theorem eX7_passAll_81 : Dc cX7_passAll 81 (.getfield 7) 3 84 := ⟨by decide +kernel, rfl⟩
theorem eX7_passAll_84 : Dc cX7_passAll 84 (.iload_n 1) 1 85 := ⟨by decide +kernel, rfl⟩
theorem eX7_passAll_85 : Dc cX7_passAll 85 (.aload_n 0) 1 86 := ⟨by decide +kernel, rfl⟩
theorem eX7_passAll_86 : Dc cX7_passAll 86 (.aload_n 0) 1 87 := ⟨by decide +kernel, rfl⟩
theorem eX7_passAll_87 : Dc cX7_passAll 87 (.getfield 7) 3 90 := ⟨by decide +kernel, rfl⟩
theorem eX7_passAll_90 : Dc cX7_passAll 90 (.iload_n 1) 1 91 := ⟨by decide +kernel, rfl⟩
theorem eX7_passAll_91 : Dc cX7_passAll 91 (.iaload) 1 92 := ⟨by decide +kernel, rfl⟩
theorem eX7_passAll_92 : Dc cX7_passAll 92 (.invokevirtual 268) 3 95 := ⟨by decide +kernel, rfl⟩
theorem eX7_passAll_95 : Dc cX7_passAll 95 (.iastore) 1 96 := ⟨by decide +kernel, rfl⟩
theorem eX7_passAll_96 : Dc cX7_passAll 96 (.iinc 1 1) 3 99 := ⟨by decide +kernel, rfl⟩
theorem eX7_passAll_99 : Dc cX7_passAll 99 (.goto (-25)) 3 102 := ⟨by decide +kernel, rfl⟩
theorem eX7_passAll_102 : Dc cX7_passAll 102 (.iconst 0) 1 103 := ⟨by decide +kernel, rfl⟩
theorem eX7_passAll_103 : Dc cX7_passAll 103 (.istore_n 1) 1 104 := ⟨by decide +kernel, rfl⟩
theorem eX7_passAll_104 : Dc cX7_passAll 104 (.iload_n 1) 1 105 := ⟨by decide +kernel, rfl⟩
theorem eX7_passAll_105 : Dc cX7_passAll 105 (.bipush 8) 2 107 := ⟨by decide +kernel, rfl⟩
theorem eX7_passAll_107 : Dc cX7_passAll 107 (.if_icmp .ge 137) 3 110 := ⟨by decide +kernel, rfl⟩
theorem eX7_passAll_110 : Dc cX7_passAll 110 (.aload_n 0) 1 111 := ⟨by decide +kernel, rfl⟩
theorem eX7_passAll_111 : Dc cX7_passAll 111 (.getfield 13) 3 114 := ⟨by decide +kernel, rfl⟩
theorem eX7_passAll_114 : Dc cX7_passAll 114 (.iload_n 1) 1 115 := ⟨by decide +kernel, rfl⟩
theorem eX7_passAll_115 : Dc cX7_passAll 115 (.aload_n 0) 1 116 := ⟨by decide +kernel, rfl⟩
theorem eX7_passAll_116 : Dc cX7_passAll 116 (.aload_n 0) 1 117 := ⟨by decide +kernel, rfl⟩
theorem eX7_passAll_117 : Dc cX7_passAll 117 (.getfield 13) 3 120 := ⟨by decide +kernel, rfl⟩
theorem eX7_passAll_120 : Dc cX7_passAll 120 (.iload_n 1) 1 121 := ⟨by decide +kernel, rfl⟩
theorem eX7_passAll_121 : Dc cX7_passAll 121 (.iaload) 1 122 := ⟨by decide +kernel, rfl⟩
theorem eX7_passAll_122 : Dc cX7_passAll 122 (.invokevirtual 268) 3 125 := ⟨by decide +kernel, rfl⟩
theorem eX7_passAll_125 : Dc cX7_passAll 125 (.iastore) 1 126 := ⟨by decide +kernel, rfl⟩
theorem eX7_passAll_126 : Dc cX7_passAll 126 (.aload_n 0) 1 127 := ⟨by decide +kernel, rfl⟩
theorem eX7_passAll_127 : Dc cX7_passAll 127 (.getfield 16) 3 130 := ⟨by decide +kernel, rfl⟩
theorem eX7_passAll_130 : Dc cX7_passAll 130 (.iload_n 1) 1 131 := ⟨by decide +kernel, rfl⟩
theorem eX7_passAll_131 : Dc cX7_passAll 131 (.aload_n 0) 1 132 := ⟨by decide +kernel, rfl⟩
theorem eX7_passAll_132 : Dc cX7_passAll 132 (.aload_n 0) 1 133 := ⟨by decide +kernel, rfl⟩
theorem eX7_passAll_133 : Dc cX7_passAll 133 (.getfield 16) 3 136 := ⟨by decide +kernel, rfl⟩
theorem eX7_passAll_136 : Dc cX7_passAll 136 (.iload_n 1) 1 137 := ⟨by decide +kernel, rfl⟩
theorem eX7_passAll_137 : Dc cX7_passAll 137 (.iaload) 1 138 := ⟨by decide +kernel, rfl⟩
theorem eX7_passAll_138 : Dc cX7_passAll 138 (.invokevirtual 268) 3 141 := ⟨by decide +kernel, rfl⟩
theorem eX7_passAll_141 : Dc cX7_passAll 141 (.iastore) 1 142 := ⟨by decide +kernel, rfl⟩
theorem eX7_passAll_142 : Dc cX7_passAll 142 (.aload_n 0) 1 143 := ⟨by decide +kernel, rfl⟩
theorem eX7_passAll_143 : Dc cX7_passAll 143 (.getfield 19) 3 146 := ⟨by decide +kernel, rfl⟩
theorem eX7_passAll_146 : Dc cX7_passAll 146 (.iload_n 1) 1 147 := ⟨by decide +kernel, rfl⟩
theorem eX7_passAll_147 : Dc cX7_passAll 147 (.aload_n 0) 1 148 := ⟨by decide +kernel, rfl⟩
theorem eX7_passAll_148 : Dc cX7_passAll 148 (.aload_n 0) 1 149 := ⟨by decide +kernel, rfl⟩
theorem eX7_passAll_149 : Dc cX7_passAll 149 (.getfield 19) 3 152 := ⟨by decide +kernel, rfl⟩
theorem eX7_passAll_152 : Dc cX7_passAll 152 (.iload_n 1) 1 153 := ⟨by decide +kernel, rfl⟩
theorem eX7_passAll_153 : Dc cX7_passAll 153 (.iaload) 1 154 := ⟨by decide +kernel, rfl⟩
theorem eX7_passAll_154 : Dc cX7_passAll 154 (.invokevirtual 268) 3 157 := ⟨by decide +kernel, rfl⟩
theorem eX7_passAll_157 : Dc cX7_passAll 157 (.iastore) 1 158 := ⟨by decide +kernel, rfl⟩
theorem eX7_passAll_158 : Dc cX7_passAll 158 (.aload_n 0) 1 159 := ⟨by decide +kernel, rfl⟩
theorem eX7_passAll_159 : Dc cX7_passAll 159 (.getfield 22) 3 162 := ⟨by decide +kernel, rfl⟩
theorem eX7_passAll_162 : Dc cX7_passAll 162 (.iload_n 1) 1 163 := ⟨by decide +kernel, rfl⟩
theorem eX7_passAll_163 : Dc cX7_passAll 163 (.aload_n 0) 1 164 := ⟨by decide +kernel, rfl⟩
theorem eX7_passAll_164 : Dc cX7_passAll 164 (.aload_n 0) 1 165 := ⟨by decide +kernel, rfl⟩
theorem eX7_passAll_165 : Dc cX7_passAll 165 (.getfield 22) 3 168 := ⟨by decide +kernel, rfl⟩
theorem eX7_passAll_168 : Dc cX7_passAll 168 (.iload_n 1) 1 169 := ⟨by decide +kernel, rfl⟩
theorem eX7_passAll_169 : Dc cX7_passAll 169 (.iaload) 1 170 := ⟨by decide +kernel, rfl⟩
theorem eX7_passAll_170 : Dc cX7_passAll 170 (.invokevirtual 268) 3 173 := ⟨by decide +kernel, rfl⟩
theorem eX7_passAll_173 : Dc cX7_passAll 173 (.iastore) 1 174 := ⟨by decide +kernel, rfl⟩
theorem eX7_passAll_174 : Dc cX7_passAll 174 (.aload_n 0) 1 175 := ⟨by decide +kernel, rfl⟩
theorem eX7_passAll_175 : Dc cX7_passAll 175 (.getfield 25) 3 178 := ⟨by decide +kernel, rfl⟩
theorem eX7_passAll_178 : Dc cX7_passAll 178 (.iload_n 1) 1 179 := ⟨by decide +kernel, rfl⟩
theorem eX7_passAll_179 : Dc cX7_passAll 179 (.aload_n 0) 1 180 := ⟨by decide +kernel, rfl⟩
theorem eX7_passAll_180 : Dc cX7_passAll 180 (.aload_n 0) 1 181 := ⟨by decide +kernel, rfl⟩
theorem eX7_passAll_181 : Dc cX7_passAll 181 (.getfield 25) 3 184 := ⟨by decide +kernel, rfl⟩
theorem eX7_passAll_184 : Dc cX7_passAll 184 (.iload_n 1) 1 185 := ⟨by decide +kernel, rfl⟩
theorem eX7_passAll_185 : Dc cX7_passAll 185 (.iaload) 1 186 := ⟨by decide +kernel, rfl⟩
theorem eX7_passAll_186 : Dc cX7_passAll 186 (.invokevirtual 268) 3 189 := ⟨by decide +kernel, rfl⟩
theorem eX7_passAll_189 : Dc cX7_passAll 189 (.iastore) 1 190 := ⟨by decide +kernel, rfl⟩
theorem eX7_passAll_190 : Dc cX7_passAll 190 (.aload_n 0) 1 191 := ⟨by decide +kernel, rfl⟩
theorem eX7_passAll_191 : Dc cX7_passAll 191 (.getfield 28) 3 194 := ⟨by decide +kernel, rfl⟩
theorem eX7_passAll_194 : Dc cX7_passAll 194 (.iload_n 1) 1 195 := ⟨by decide +kernel, rfl⟩
theorem eX7_passAll_195 : Dc cX7_passAll 195 (.aload_n 0) 1 196 := ⟨by decide +kernel, rfl⟩
theorem eX7_passAll_196 : Dc cX7_passAll 196 (.aload_n 0) 1 197 := ⟨by decide +kernel, rfl⟩
theorem eX7_passAll_197 : Dc cX7_passAll 197 (.getfield 28) 3 200 := ⟨by decide +kernel, rfl⟩
theorem eX7_passAll_200 : Dc cX7_passAll 200 (.iload_n 1) 1 201 := ⟨by decide +kernel, rfl⟩
theorem eX7_passAll_201 : Dc cX7_passAll 201 (.iaload) 1 202 := ⟨by decide +kernel, rfl⟩
theorem eX7_passAll_202 : Dc cX7_passAll 202 (.invokevirtual 268) 3 205 := ⟨by decide +kernel, rfl⟩
theorem eX7_passAll_205 : Dc cX7_passAll 205 (.iastore) 1 206 := ⟨by decide +kernel, rfl⟩
theorem eX7_passAll_206 : Dc cX7_passAll 206 (.aload_n 0) 1 207 := ⟨by decide +kernel, rfl⟩
theorem eX7_passAll_207 : Dc cX7_passAll 207 (.getfield 31) 3 210 := ⟨by decide +kernel, rfl⟩
theorem eX7_passAll_210 : Dc cX7_passAll 210 (.iload_n 1) 1 211 := ⟨by decide +kernel, rfl⟩
theorem eX7_passAll_211 : Dc cX7_passAll 211 (.aload_n 0) 1 212 := ⟨by decide +kernel, rfl⟩
theorem eX7_passAll_212 : Dc cX7_passAll 212 (.aload_n 0) 1 213 := ⟨by decide +kernel, rfl⟩
theorem eX7_passAll_213 : Dc cX7_passAll 213 (.getfield 31) 3 216 := ⟨by decide +kernel, rfl⟩
theorem eX7_passAll_216 : Dc cX7_passAll 216 (.iload_n 1) 1 217 := ⟨by decide +kernel, rfl⟩
theorem eX7_passAll_217 : Dc cX7_passAll 217 (.iaload) 1 218 := ⟨by decide +kernel, rfl⟩
theorem eX7_passAll_218 : Dc cX7_passAll 218 (.invokevirtual 268) 3 221 := ⟨by decide +kernel, rfl⟩
theorem eX7_passAll_221 : Dc cX7_passAll 221 (.iastore) 1 222 := ⟨by decide +kernel, rfl⟩
theorem eX7_passAll_222 : Dc cX7_passAll 222 (.aload_n 0) 1 223 := ⟨by decide +kernel, rfl⟩
theorem eX7_passAll_223 : Dc cX7_passAll 223 (.getfield 34) 3 226 := ⟨by decide +kernel, rfl⟩
theorem eX7_passAll_226 : Dc cX7_passAll 226 (.iload_n 1) 1 227 := ⟨by decide +kernel, rfl⟩
theorem eX7_passAll_227 : Dc cX7_passAll 227 (.aload_n 0) 1 228 := ⟨by decide +kernel, rfl⟩
theorem eX7_passAll_228 : Dc cX7_passAll 228 (.aload_n 0) 1 229 := ⟨by decide +kernel, rfl⟩
theorem eX7_passAll_229 : Dc cX7_passAll 229 (.getfield 34) 3 232 := ⟨by decide +kernel, rfl⟩
theorem eX7_passAll_232 : Dc cX7_passAll 232 (.iload_n 1) 1 233 := ⟨by decide +kernel, rfl⟩
theorem eX7_passAll_233 : Dc cX7_passAll 233 (.iaload) 1 234 := ⟨by decide +kernel, rfl⟩
theorem eX7_passAll_234 : Dc cX7_passAll 234 (.invokevirtual 268) 3 237 := ⟨by decide +kernel, rfl⟩
theorem eX7_passAll_237 : Dc cX7_passAll 237 (.iastore) 1 238 := ⟨by decide +kernel, rfl⟩
theorem eX7_passAll_238 : Dc cX7_passAll 238 (.iinc 1 1) 3 241 := ⟨by decide +kernel, rfl⟩
theorem eX7_passAll_241 : Dc cX7_passAll 241 (.goto (-137)) 3 244 := ⟨by decide +kernel, rfl⟩
theorem eX7_passAll_244 : Dc cX7_passAll 244 (.return_) 1 245 := ⟨by decide +kernel, rfl⟩
def fX7_passAll_L74 (k : SS → Option (SS))  : Nat → Int32 → SS → Option (SS)
  | 0, _, _ => none
  | n + 1, a1, c => if (6 : Int32) ≤ a1 then k c else ald 6 (c.2 1) a1 (fun v8 => Option.bind (fX7_pass c v8) (fun q9 => ckb 6 a1 (fX7_passAll_L74 k n (a1 + (1 : Int32)) (sA q9.2 1 (a1).toNatClampNeg q9.1))))
def fX7_passAll_L104   : Nat → Int32 → SS → Option (SS)
  | 0, _, _ => none
  | n + 1, a1, c => if (8 : Int32) ≤ a1 then some c else ald 8 (c.2 4) a1 (fun v13 => Option.bind (fX7_pass c v13) (fun q14 => ckb 8 a1 (ald 8 (q14.2.2 5) a1 (fun v16 => Option.bind (fX7_pass (sA q14.2 4 (a1).toNatClampNeg q14.1) v16) (fun q17 => ckb 8 a1 (ald 8 (q17.2.2 6) a1 (fun v19 => Option.bind (fX7_pass (sA q17.2 5 (a1).toNatClampNeg q17.1) v19) (fun q20 => ckb 8 a1 (ald 8 (q20.2.2 7) a1 (fun v22 => Option.bind (fX7_pass (sA q20.2 6 (a1).toNatClampNeg q20.1) v22) (fun q23 => ckb 8 a1 (ald 8 (q23.2.2 8) a1 (fun v25 => Option.bind (fX7_pass (sA q23.2 7 (a1).toNatClampNeg q23.1) v25) (fun q26 => ckb 8 a1 (ald 8 (q26.2.2 9) a1 (fun v28 => Option.bind (fX7_pass (sA q26.2 8 (a1).toNatClampNeg q26.1) v28) (fun q29 => ckb 8 a1 (ald 8 (q29.2.2 12) a1 (fun v31 => Option.bind (fX7_pass (sA q29.2 9 (a1).toNatClampNeg q29.1) v31) (fun q32 => ckb 8 a1 (ald 8 (q32.2.2 13) a1 (fun v34 => Option.bind (fX7_pass (sA q32.2 12 (a1).toNatClampNeg q32.1) v34) (fun q35 => ckb 8 a1 (fX7_passAll_L104  n (a1 + (1 : Int32)) (sA q35.2 13 (a1).toNatClampNeg q35.1)))))))))))))))))))))))))
def fX7_passAll (c : SS)  : Option (SS) := Option.bind (fX7_pass c (c.1 0)) (fun q1 => Option.bind (fX7_pass (sF q1.2 0 q1.1) (q1.2.1 2)) (fun q2 => Option.bind (fX7_pass (sF q2.2 2 q2.1) (q2.2.1 3)) (fun q3 => Option.bind (fX7_pass (sF q3.2 3 q3.1) (q3.2.1 10)) (fun q4 => Option.bind (fX7_pass (sF q4.2 10 q4.1) (q4.2.1 11)) (fun q5 => Option.bind (fX7_pass (sF q5.2 11 q5.1) (q5.2.1 14)) (fun q6 => fX7_passAll_L74 (fun (c11 : SS) => fX7_passAll_L104  fu (0 : Int32) c11) fu (0 : Int32) (sF q6.2 14 q6.1)))))))
set_option maxRecDepth 20000 in
theorem ctX7_passAll_L74 (l : Launch) (G : tg_G) (A : Nat → Nat) (k : SS → Option (SS))  {z : SS} (hk : ∀ (ec : SS), k ec = some z → V l G (tg_Zm G (fun v w1 => v = none ∧ w1 = wM G A z) 0 0) tg_E0 (tg_R 1 22) "TramGodModel" "passAll" cX7_passAll 2 none 102 [(0, .ref (A 0))] [] (wM G A ec) 0 0) : ∀ (n : Nat) (a1 : Int32) (c : SS), fX7_passAll_L74 k n a1 c = some z → V l G (tg_Zm G (fun v w1 => v = none ∧ w1 = wM G A z) 0 0) tg_E0 (tg_R 1 22) "TramGodModel" "passAll" cX7_passAll 2 none 74 [(0, .ref (A 0)), (1, .int a1)] [] (wM G A c) 0 0 := by
  intro n
  induction n with
  | zero => intro a1 c h; exact absurd h (by simp [fX7_passAll_L74])
  | succ n ih =>
    intro a1 c h
    unfold fX7_passAll_L74 at h
    refine V_iload_n eX7_passAll_74 1 rfl ?_
    refine V_bipush (v := (6 : Int32)) eX7_passAll_75 rfl ?_
    refine V_icmp_ge (tgt := 102) eX7_passAll_77 rfl (fun hb7 => ?_) (fun hb7 => ?_)
    · replace h := (if_pos hb7).symm.trans h
      refine V_lv (lv' := [(0, .ref (A 0))]) [0] rfl ?_
      exact hk c h
    · replace h := (if_neg hb7).symm.trans h
      refine V_aload_n eX7_passAll_80 0 rfl ?_
      refine V_get (v := .ref (A 1)) eX7_passAll_81 inX7 0 rfl rfl 1 (Nat.le_of_ble_eq_true rfl) tw_646 rfl ?_
      refine V_iload_n eX7_passAll_84 1 rfl ?_
      refine V_aload_n eX7_passAll_85 0 rfl ?_
      refine V_aload_n eX7_passAll_86 0 rfl ?_
      refine V_get (v := .ref (A 1)) eX7_passAll_87 inX7 0 rfl rfl 1 (Nat.le_of_ble_eq_true rfl) tw_646 rfl ?_
      refine V_iload_n eX7_passAll_90 1 rfl ?_
      obtain ⟨v8, hi8, ev8, h⟩ := ald_some h
      refine V_ialdv eX7_passAll_91 1 rfl hi8 ev8 ?_
      obtain ⟨q9, hc9, h⟩ := Option.bind_eq_some_iff.mp h
      refine V_callVi (rest := [.int a1, .ref (A 1)]) eX7_passAll_92 (ctX7_pass l G A c v8 hc9) tc_1013 tw_1010 tw_8 tw_1012 ts_47 0 rfl rfl hdX7_pass rfl ⟨Nat.le_of_ble_eq_true rfl, Nat.le_of_ble_eq_true rfl⟩ rfl (Nat.le_of_ble_eq_true rfl) ⟨Nat.zero_le _, Nat.zero_le _⟩ ?_
      obtain ⟨hi10, h⟩ := ckb_some h
      refine V_iast (w' := wM G A (sA q9.2 1 (a1).toNatClampNeg q9.1)) eX7_passAll_95 1 rfl hi10 rfl ?_
      refine V_iinc (v := (a1 + (1 : Int32))) (lv' := [(1, .int (a1 + (1 : Int32))), (0, .ref (A 0))]) eX7_passAll_96 1 rfl rfl (Nat.le_of_ble_eq_true rfl) rfl ?_
      refine V_goto (tgt := 74) eX7_passAll_99 rfl ?_
      refine V_lv (lv' := [(0, .ref (A 0)), (1, .int (a1 + (1 : Int32)))]) [1, 0] rfl ?_
      exact ih (a1 + (1 : Int32)) (sA q9.2 1 (a1).toNatClampNeg q9.1) h
set_option maxRecDepth 20000 in
theorem ctX7_passAll_L104 (l : Launch) (G : tg_G) (A : Nat → Nat)   {z : SS}  : ∀ (n : Nat) (a1 : Int32) (c : SS), fX7_passAll_L104  n a1 c = some z → V l G (tg_Zm G (fun v w1 => v = none ∧ w1 = wM G A z) 0 0) tg_E0 (tg_R 1 22) "TramGodModel" "passAll" cX7_passAll 2 none 104 [(0, .ref (A 0)), (1, .int a1)] [] (wM G A c) 0 0 := by
  intro n
  induction n with
  | zero => intro a1 c h; exact absurd h (by simp [fX7_passAll_L104])
  | succ n ih =>
    intro a1 c h
    unfold fX7_passAll_L104 at h
    refine V_iload_n eX7_passAll_104 1 rfl ?_
    refine V_bipush (v := (8 : Int32)) eX7_passAll_105 rfl ?_
    refine V_icmp_ge (tgt := 244) eX7_passAll_107 rfl (fun hb12 => ?_) (fun hb12 => ?_)
    · replace h := (if_pos hb12).symm.trans h
      obtain rfl := Option.some.inj h
      exact V_vret eX7_passAll_244 rfl ⟨rfl, rfl⟩
    · replace h := (if_neg hb12).symm.trans h
      refine V_aload_n eX7_passAll_110 0 rfl ?_
      refine V_get (v := .ref (A 2)) eX7_passAll_111 inX7 0 rfl rfl 4 (Nat.le_of_ble_eq_true rfl) tw_649 rfl ?_
      refine V_iload_n eX7_passAll_114 1 rfl ?_
      refine V_aload_n eX7_passAll_115 0 rfl ?_
      refine V_aload_n eX7_passAll_116 0 rfl ?_
      refine V_get (v := .ref (A 2)) eX7_passAll_117 inX7 0 rfl rfl 4 (Nat.le_of_ble_eq_true rfl) tw_649 rfl ?_
      refine V_iload_n eX7_passAll_120 1 rfl ?_
      obtain ⟨v13, hi13, ev13, h⟩ := ald_some h
      refine V_ialdv eX7_passAll_121 2 rfl hi13 ev13 ?_
      obtain ⟨q14, hc14, h⟩ := Option.bind_eq_some_iff.mp h
      refine V_callVi (rest := [.int a1, .ref (A 2)]) eX7_passAll_122 (ctX7_pass l G A c v13 hc14) tc_1013 tw_1010 tw_8 tw_1012 ts_47 0 rfl rfl hdX7_pass rfl ⟨Nat.le_of_ble_eq_true rfl, Nat.le_of_ble_eq_true rfl⟩ rfl (Nat.le_of_ble_eq_true rfl) ⟨Nat.zero_le _, Nat.zero_le _⟩ ?_
      obtain ⟨hi15, h⟩ := ckb_some h
      refine V_iast (w' := wM G A (sA q14.2 4 (a1).toNatClampNeg q14.1)) eX7_passAll_125 2 rfl hi15 rfl ?_
      refine V_aload_n eX7_passAll_126 0 rfl ?_
      refine V_get (v := .ref (A 3)) eX7_passAll_127 inX7 0 rfl rfl 5 (Nat.le_of_ble_eq_true rfl) tw_650 rfl ?_
      refine V_iload_n eX7_passAll_130 1 rfl ?_
      refine V_aload_n eX7_passAll_131 0 rfl ?_
      refine V_aload_n eX7_passAll_132 0 rfl ?_
      refine V_get (v := .ref (A 3)) eX7_passAll_133 inX7 0 rfl rfl 5 (Nat.le_of_ble_eq_true rfl) tw_650 rfl ?_
      refine V_iload_n eX7_passAll_136 1 rfl ?_
      obtain ⟨v16, hi16, ev16, h⟩ := ald_some h
      refine V_ialdv eX7_passAll_137 3 rfl hi16 ev16 ?_
      obtain ⟨q17, hc17, h⟩ := Option.bind_eq_some_iff.mp h
      refine V_callVi (rest := [.int a1, .ref (A 3)]) eX7_passAll_138 (ctX7_pass l G A (sA q14.2 4 (a1).toNatClampNeg q14.1) v16 hc17) tc_1013 tw_1010 tw_8 tw_1012 ts_47 0 rfl rfl hdX7_pass rfl ⟨Nat.le_of_ble_eq_true rfl, Nat.le_of_ble_eq_true rfl⟩ rfl (Nat.le_of_ble_eq_true rfl) ⟨Nat.zero_le _, Nat.zero_le _⟩ ?_
      obtain ⟨hi18, h⟩ := ckb_some h
      refine V_iast (w' := wM G A (sA q17.2 5 (a1).toNatClampNeg q17.1)) eX7_passAll_141 3 rfl hi18 rfl ?_
      refine V_aload_n eX7_passAll_142 0 rfl ?_
      refine V_get (v := .ref (A 4)) eX7_passAll_143 inX7 0 rfl rfl 6 (Nat.le_of_ble_eq_true rfl) tw_651 rfl ?_
      refine V_iload_n eX7_passAll_146 1 rfl ?_
      refine V_aload_n eX7_passAll_147 0 rfl ?_
      refine V_aload_n eX7_passAll_148 0 rfl ?_
      refine V_get (v := .ref (A 4)) eX7_passAll_149 inX7 0 rfl rfl 6 (Nat.le_of_ble_eq_true rfl) tw_651 rfl ?_
      refine V_iload_n eX7_passAll_152 1 rfl ?_
      obtain ⟨v19, hi19, ev19, h⟩ := ald_some h
      refine V_ialdv eX7_passAll_153 4 rfl hi19 ev19 ?_
      obtain ⟨q20, hc20, h⟩ := Option.bind_eq_some_iff.mp h
      refine V_callVi (rest := [.int a1, .ref (A 4)]) eX7_passAll_154 (ctX7_pass l G A (sA q17.2 5 (a1).toNatClampNeg q17.1) v19 hc20) tc_1013 tw_1010 tw_8 tw_1012 ts_47 0 rfl rfl hdX7_pass rfl ⟨Nat.le_of_ble_eq_true rfl, Nat.le_of_ble_eq_true rfl⟩ rfl (Nat.le_of_ble_eq_true rfl) ⟨Nat.zero_le _, Nat.zero_le _⟩ ?_
      obtain ⟨hi21, h⟩ := ckb_some h
      refine V_iast (w' := wM G A (sA q20.2 6 (a1).toNatClampNeg q20.1)) eX7_passAll_157 4 rfl hi21 rfl ?_
      refine V_aload_n eX7_passAll_158 0 rfl ?_
      refine V_get (v := .ref (A 5)) eX7_passAll_159 inX7 0 rfl rfl 7 (Nat.le_of_ble_eq_true rfl) tw_652 rfl ?_
      refine V_iload_n eX7_passAll_162 1 rfl ?_
      refine V_aload_n eX7_passAll_163 0 rfl ?_
      refine V_aload_n eX7_passAll_164 0 rfl ?_
      refine V_get (v := .ref (A 5)) eX7_passAll_165 inX7 0 rfl rfl 7 (Nat.le_of_ble_eq_true rfl) tw_652 rfl ?_
      refine V_iload_n eX7_passAll_168 1 rfl ?_
      obtain ⟨v22, hi22, ev22, h⟩ := ald_some h
      refine V_ialdv eX7_passAll_169 5 rfl hi22 ev22 ?_
      obtain ⟨q23, hc23, h⟩ := Option.bind_eq_some_iff.mp h
      refine V_callVi (rest := [.int a1, .ref (A 5)]) eX7_passAll_170 (ctX7_pass l G A (sA q20.2 6 (a1).toNatClampNeg q20.1) v22 hc23) tc_1013 tw_1010 tw_8 tw_1012 ts_47 0 rfl rfl hdX7_pass rfl ⟨Nat.le_of_ble_eq_true rfl, Nat.le_of_ble_eq_true rfl⟩ rfl (Nat.le_of_ble_eq_true rfl) ⟨Nat.zero_le _, Nat.zero_le _⟩ ?_
      obtain ⟨hi24, h⟩ := ckb_some h
      refine V_iast (w' := wM G A (sA q23.2 7 (a1).toNatClampNeg q23.1)) eX7_passAll_173 5 rfl hi24 rfl ?_
      refine V_aload_n eX7_passAll_174 0 rfl ?_
      refine V_get (v := .ref (A 6)) eX7_passAll_175 inX7 0 rfl rfl 8 (Nat.le_of_ble_eq_true rfl) tw_653 rfl ?_
      refine V_iload_n eX7_passAll_178 1 rfl ?_
      refine V_aload_n eX7_passAll_179 0 rfl ?_
      refine V_aload_n eX7_passAll_180 0 rfl ?_
      refine V_get (v := .ref (A 6)) eX7_passAll_181 inX7 0 rfl rfl 8 (Nat.le_of_ble_eq_true rfl) tw_653 rfl ?_
      refine V_iload_n eX7_passAll_184 1 rfl ?_
      obtain ⟨v25, hi25, ev25, h⟩ := ald_some h
      refine V_ialdv eX7_passAll_185 6 rfl hi25 ev25 ?_
      obtain ⟨q26, hc26, h⟩ := Option.bind_eq_some_iff.mp h
      refine V_callVi (rest := [.int a1, .ref (A 6)]) eX7_passAll_186 (ctX7_pass l G A (sA q23.2 7 (a1).toNatClampNeg q23.1) v25 hc26) tc_1013 tw_1010 tw_8 tw_1012 ts_47 0 rfl rfl hdX7_pass rfl ⟨Nat.le_of_ble_eq_true rfl, Nat.le_of_ble_eq_true rfl⟩ rfl (Nat.le_of_ble_eq_true rfl) ⟨Nat.zero_le _, Nat.zero_le _⟩ ?_
      obtain ⟨hi27, h⟩ := ckb_some h
      refine V_iast (w' := wM G A (sA q26.2 8 (a1).toNatClampNeg q26.1)) eX7_passAll_189 6 rfl hi27 rfl ?_
      refine V_aload_n eX7_passAll_190 0 rfl ?_
      refine V_get (v := .ref (A 7)) eX7_passAll_191 inX7 0 rfl rfl 9 (Nat.le_of_ble_eq_true rfl) tw_654 rfl ?_
      refine V_iload_n eX7_passAll_194 1 rfl ?_
      refine V_aload_n eX7_passAll_195 0 rfl ?_
      refine V_aload_n eX7_passAll_196 0 rfl ?_
      refine V_get (v := .ref (A 7)) eX7_passAll_197 inX7 0 rfl rfl 9 (Nat.le_of_ble_eq_true rfl) tw_654 rfl ?_
      refine V_iload_n eX7_passAll_200 1 rfl ?_
      obtain ⟨v28, hi28, ev28, h⟩ := ald_some h
      refine V_ialdv eX7_passAll_201 7 rfl hi28 ev28 ?_
      obtain ⟨q29, hc29, h⟩ := Option.bind_eq_some_iff.mp h
      refine V_callVi (rest := [.int a1, .ref (A 7)]) eX7_passAll_202 (ctX7_pass l G A (sA q26.2 8 (a1).toNatClampNeg q26.1) v28 hc29) tc_1013 tw_1010 tw_8 tw_1012 ts_47 0 rfl rfl hdX7_pass rfl ⟨Nat.le_of_ble_eq_true rfl, Nat.le_of_ble_eq_true rfl⟩ rfl (Nat.le_of_ble_eq_true rfl) ⟨Nat.zero_le _, Nat.zero_le _⟩ ?_
      obtain ⟨hi30, h⟩ := ckb_some h
      refine V_iast (w' := wM G A (sA q29.2 9 (a1).toNatClampNeg q29.1)) eX7_passAll_205 7 rfl hi30 rfl ?_
      refine V_aload_n eX7_passAll_206 0 rfl ?_
      refine V_get (v := .ref (A 8)) eX7_passAll_207 inX7 0 rfl rfl 12 (Nat.le_of_ble_eq_true rfl) tw_657 rfl ?_
      refine V_iload_n eX7_passAll_210 1 rfl ?_
      refine V_aload_n eX7_passAll_211 0 rfl ?_
      refine V_aload_n eX7_passAll_212 0 rfl ?_
      refine V_get (v := .ref (A 8)) eX7_passAll_213 inX7 0 rfl rfl 12 (Nat.le_of_ble_eq_true rfl) tw_657 rfl ?_
      refine V_iload_n eX7_passAll_216 1 rfl ?_
      obtain ⟨v31, hi31, ev31, h⟩ := ald_some h
      refine V_ialdv eX7_passAll_217 8 rfl hi31 ev31 ?_
      obtain ⟨q32, hc32, h⟩ := Option.bind_eq_some_iff.mp h
      refine V_callVi (rest := [.int a1, .ref (A 8)]) eX7_passAll_218 (ctX7_pass l G A (sA q29.2 9 (a1).toNatClampNeg q29.1) v31 hc32) tc_1013 tw_1010 tw_8 tw_1012 ts_47 0 rfl rfl hdX7_pass rfl ⟨Nat.le_of_ble_eq_true rfl, Nat.le_of_ble_eq_true rfl⟩ rfl (Nat.le_of_ble_eq_true rfl) ⟨Nat.zero_le _, Nat.zero_le _⟩ ?_
      obtain ⟨hi33, h⟩ := ckb_some h
      refine V_iast (w' := wM G A (sA q32.2 12 (a1).toNatClampNeg q32.1)) eX7_passAll_221 8 rfl hi33 rfl ?_
      refine V_aload_n eX7_passAll_222 0 rfl ?_
      refine V_get (v := .ref (A 9)) eX7_passAll_223 inX7 0 rfl rfl 13 (Nat.le_of_ble_eq_true rfl) tw_658 rfl ?_
      refine V_iload_n eX7_passAll_226 1 rfl ?_
      refine V_aload_n eX7_passAll_227 0 rfl ?_
      refine V_aload_n eX7_passAll_228 0 rfl ?_
      refine V_get (v := .ref (A 9)) eX7_passAll_229 inX7 0 rfl rfl 13 (Nat.le_of_ble_eq_true rfl) tw_658 rfl ?_
      refine V_iload_n eX7_passAll_232 1 rfl ?_
      obtain ⟨v34, hi34, ev34, h⟩ := ald_some h
      refine V_ialdv eX7_passAll_233 9 rfl hi34 ev34 ?_
      obtain ⟨q35, hc35, h⟩ := Option.bind_eq_some_iff.mp h
      refine V_callVi (rest := [.int a1, .ref (A 9)]) eX7_passAll_234 (ctX7_pass l G A (sA q32.2 12 (a1).toNatClampNeg q32.1) v34 hc35) tc_1013 tw_1010 tw_8 tw_1012 ts_47 0 rfl rfl hdX7_pass rfl ⟨Nat.le_of_ble_eq_true rfl, Nat.le_of_ble_eq_true rfl⟩ rfl (Nat.le_of_ble_eq_true rfl) ⟨Nat.zero_le _, Nat.zero_le _⟩ ?_
      obtain ⟨hi36, h⟩ := ckb_some h
      refine V_iast (w' := wM G A (sA q35.2 13 (a1).toNatClampNeg q35.1)) eX7_passAll_237 9 rfl hi36 rfl ?_
      refine V_iinc (v := (a1 + (1 : Int32))) (lv' := [(1, .int (a1 + (1 : Int32))), (0, .ref (A 0))]) eX7_passAll_238 1 rfl rfl (Nat.le_of_ble_eq_true rfl) rfl ?_
      refine V_goto (tgt := 104) eX7_passAll_241 rfl ?_
      refine V_lv (lv' := [(0, .ref (A 0)), (1, .int (a1 + (1 : Int32)))]) [1, 0] rfl ?_
      exact ih (a1 + (1 : Int32)) (sA q35.2 13 (a1).toNatClampNeg q35.1) h
set_option maxRecDepth 20000 in
theorem ctX7_passAll (l : Launch) (G : tg_G) (A : Nat → Nat) (c : SS)  {z : SS} (h : fX7_passAll c  = some z) : Mt l G yX7_passAll cX7_passAll 2 none (tg_R 1 22) [.ref (A 0)] (wM G A c) (fun v w1 => v = none ∧ w1 = wM G A z) := by
  refine Mt_of2 (own := "TramGodModel") (nm := "passAll") rfl rfl rfl (Nat.le_of_ble_eq_true rfl) (lv := [(0, .ref (A 0))]) rfl ?_
  unfold fX7_passAll at h
  refine V_aload_n eX7_passAll_0 0 rfl ?_
  refine V_aload_n eX7_passAll_1 0 rfl ?_
  refine V_aload_n eX7_passAll_2 0 rfl ?_
  refine V_get (v := .int (c.1 0)) eX7_passAll_3 inX7 0 rfl rfl 0 (Nat.le_of_ble_eq_true rfl) tw_645 rfl ?_
  obtain ⟨q1, hc1, h⟩ := Option.bind_eq_some_iff.mp h
  refine V_callVi (rest := [.ref (A 0)]) eX7_passAll_6 (ctX7_pass l G A c (c.1 0) hc1) tc_1013 tw_1010 tw_8 tw_1012 ts_47 0 rfl rfl hdX7_pass rfl ⟨Nat.le_of_ble_eq_true rfl, Nat.le_of_ble_eq_true rfl⟩ rfl (Nat.le_of_ble_eq_true rfl) ⟨Nat.zero_le _, Nat.zero_le _⟩ ?_
  refine V_put (w' := wM G A (sF q1.2 0 q1.1)) eX7_passAll_9 inX7 tyX7 tyX7_ok nmX7 0 rfl rfl 0 (Nat.le_of_ble_eq_true rfl) tw_645 rfl rfl rfl rfl (Nat.le_of_ble_eq_true rfl) rfl ?_
  refine V_aload_n eX7_passAll_12 0 rfl ?_
  refine V_aload_n eX7_passAll_13 0 rfl ?_
  refine V_aload_n eX7_passAll_14 0 rfl ?_
  refine V_get (v := .int (q1.2.1 2)) eX7_passAll_15 inX7 0 rfl rfl 2 (Nat.le_of_ble_eq_true rfl) tw_647 rfl ?_
  obtain ⟨q2, hc2, h⟩ := Option.bind_eq_some_iff.mp h
  refine V_callVi (rest := [.ref (A 0)]) eX7_passAll_18 (ctX7_pass l G A (sF q1.2 0 q1.1) (q1.2.1 2) hc2) tc_1013 tw_1010 tw_8 tw_1012 ts_47 0 rfl rfl hdX7_pass rfl ⟨Nat.le_of_ble_eq_true rfl, Nat.le_of_ble_eq_true rfl⟩ rfl (Nat.le_of_ble_eq_true rfl) ⟨Nat.zero_le _, Nat.zero_le _⟩ ?_
  refine V_put (w' := wM G A (sF q2.2 2 q2.1)) eX7_passAll_21 inX7 tyX7 tyX7_ok nmX7 0 rfl rfl 2 (Nat.le_of_ble_eq_true rfl) tw_647 rfl rfl rfl rfl (Nat.le_of_ble_eq_true rfl) rfl ?_
  refine V_aload_n eX7_passAll_24 0 rfl ?_
  refine V_aload_n eX7_passAll_25 0 rfl ?_
  refine V_aload_n eX7_passAll_26 0 rfl ?_
  refine V_get (v := .int (q2.2.1 3)) eX7_passAll_27 inX7 0 rfl rfl 3 (Nat.le_of_ble_eq_true rfl) tw_648 rfl ?_
  obtain ⟨q3, hc3, h⟩ := Option.bind_eq_some_iff.mp h
  refine V_callVi (rest := [.ref (A 0)]) eX7_passAll_30 (ctX7_pass l G A (sF q2.2 2 q2.1) (q2.2.1 3) hc3) tc_1013 tw_1010 tw_8 tw_1012 ts_47 0 rfl rfl hdX7_pass rfl ⟨Nat.le_of_ble_eq_true rfl, Nat.le_of_ble_eq_true rfl⟩ rfl (Nat.le_of_ble_eq_true rfl) ⟨Nat.zero_le _, Nat.zero_le _⟩ ?_
  refine V_put (w' := wM G A (sF q3.2 3 q3.1)) eX7_passAll_33 inX7 tyX7 tyX7_ok nmX7 0 rfl rfl 3 (Nat.le_of_ble_eq_true rfl) tw_648 rfl rfl rfl rfl (Nat.le_of_ble_eq_true rfl) rfl ?_
  refine V_aload_n eX7_passAll_36 0 rfl ?_
  refine V_aload_n eX7_passAll_37 0 rfl ?_
  refine V_aload_n eX7_passAll_38 0 rfl ?_
  refine V_get (v := .int (q3.2.1 10)) eX7_passAll_39 inX7 0 rfl rfl 10 (Nat.le_of_ble_eq_true rfl) tw_655 rfl ?_
  obtain ⟨q4, hc4, h⟩ := Option.bind_eq_some_iff.mp h
  refine V_callVi (rest := [.ref (A 0)]) eX7_passAll_42 (ctX7_pass l G A (sF q3.2 3 q3.1) (q3.2.1 10) hc4) tc_1013 tw_1010 tw_8 tw_1012 ts_47 0 rfl rfl hdX7_pass rfl ⟨Nat.le_of_ble_eq_true rfl, Nat.le_of_ble_eq_true rfl⟩ rfl (Nat.le_of_ble_eq_true rfl) ⟨Nat.zero_le _, Nat.zero_le _⟩ ?_
  refine V_put (w' := wM G A (sF q4.2 10 q4.1)) eX7_passAll_45 inX7 tyX7 tyX7_ok nmX7 0 rfl rfl 10 (Nat.le_of_ble_eq_true rfl) tw_655 rfl rfl rfl rfl (Nat.le_of_ble_eq_true rfl) rfl ?_
  refine V_aload_n eX7_passAll_48 0 rfl ?_
  refine V_aload_n eX7_passAll_49 0 rfl ?_
  refine V_aload_n eX7_passAll_50 0 rfl ?_
  refine V_get (v := .int (q4.2.1 11)) eX7_passAll_51 inX7 0 rfl rfl 11 (Nat.le_of_ble_eq_true rfl) tw_656 rfl ?_
  obtain ⟨q5, hc5, h⟩ := Option.bind_eq_some_iff.mp h
  refine V_callVi (rest := [.ref (A 0)]) eX7_passAll_54 (ctX7_pass l G A (sF q4.2 10 q4.1) (q4.2.1 11) hc5) tc_1013 tw_1010 tw_8 tw_1012 ts_47 0 rfl rfl hdX7_pass rfl ⟨Nat.le_of_ble_eq_true rfl, Nat.le_of_ble_eq_true rfl⟩ rfl (Nat.le_of_ble_eq_true rfl) ⟨Nat.zero_le _, Nat.zero_le _⟩ ?_
  refine V_put (w' := wM G A (sF q5.2 11 q5.1)) eX7_passAll_57 inX7 tyX7 tyX7_ok nmX7 0 rfl rfl 11 (Nat.le_of_ble_eq_true rfl) tw_656 rfl rfl rfl rfl (Nat.le_of_ble_eq_true rfl) rfl ?_
  refine V_aload_n eX7_passAll_60 0 rfl ?_
  refine V_aload_n eX7_passAll_61 0 rfl ?_
  refine V_aload_n eX7_passAll_62 0 rfl ?_
  refine V_get (v := .int (q5.2.1 14)) eX7_passAll_63 inX7 0 rfl rfl 14 (Nat.le_of_ble_eq_true rfl) tw_659 rfl ?_
  obtain ⟨q6, hc6, h⟩ := Option.bind_eq_some_iff.mp h
  refine V_callVi (rest := [.ref (A 0)]) eX7_passAll_66 (ctX7_pass l G A (sF q5.2 11 q5.1) (q5.2.1 14) hc6) tc_1013 tw_1010 tw_8 tw_1012 ts_47 0 rfl rfl hdX7_pass rfl ⟨Nat.le_of_ble_eq_true rfl, Nat.le_of_ble_eq_true rfl⟩ rfl (Nat.le_of_ble_eq_true rfl) ⟨Nat.zero_le _, Nat.zero_le _⟩ ?_
  refine V_put (w' := wM G A (sF q6.2 14 q6.1)) eX7_passAll_69 inX7 tyX7 tyX7_ok nmX7 0 rfl rfl 14 (Nat.le_of_ble_eq_true rfl) tw_659 rfl rfl rfl rfl (Nat.le_of_ble_eq_true rfl) rfl ?_
  refine V_iconst (v := (0 : Int32)) eX7_passAll_72 rfl ?_
  refine V_istore_n (lv' := [(1, .int (0 : Int32)), (0, .ref (A 0))]) eX7_passAll_73 (Nat.le_of_ble_eq_true rfl) rfl ?_
  refine V_lv (lv' := [(0, .ref (A 0)), (1, .int (0 : Int32))]) [1, 0] rfl ?_
  refine ctX7_passAll_L74 l G A _ ?_ fu (0 : Int32) (sF q6.2 14 q6.1) h
  · intro c11 h
    refine V_iconst (v := (0 : Int32)) eX7_passAll_102 rfl ?_
    refine V_istore_n (lv' := [(1, .int (0 : Int32)), (0, .ref (A 0))]) eX7_passAll_103 (Nat.le_of_ble_eq_true rfl) rfl ?_
    refine V_lv (lv' := [(0, .ref (A 0)), (1, .int (0 : Int32))]) [1, 0] rfl ?_
    refine ctX7_passAll_L104 l G A fu (0 : Int32) c11 h
theorem hdX7_image : yX7_image.cls ≠ "java/lang/invoke/MethodHandle" ∧ yX7_image.cls ≠ "java/lang/invoke/VarHandle" ∧ (parseMethodDescriptor yX7_image.desc).map (fun d => d.parameters.length) = some 1 := by decide +kernel
theorem eX7_image_0 : Dc cX7_image 0 (.iload_n 1) 1 1 := ⟨by decide +kernel, rfl⟩
theorem eX7_image_1 : Dc cX7_image 1 (.i2l) 1 2 := ⟨by decide +kernel, rfl⟩
theorem eX7_image_2 : Dc cX7_image 2 (.lconst 0) 1 3 := ⟨by decide +kernel, rfl⟩
theorem eX7_image_3 : Dc cX7_image 3 (.lconst 1) 1 4 := ⟨by decide +kernel, rfl⟩
theorem eX7_image_4 : Dc cX7_image 4 (.invokestatic 79) 3 7 := ⟨by decide +kernel, rfl⟩
theorem eX7_image_7 : Dc cX7_image 7 (.ifCond .ne 6) 3 10 := ⟨by decide +kernel, rfl⟩
theorem eX7_image_10 : Dc cX7_image 10 (.bipush (-2)) 2 12 := ⟨by decide +kernel, rfl⟩
theorem eX7_image_12 : Dc cX7_image 12 (.ireturn) 1 13 := ⟨by decide +kernel, rfl⟩
theorem eX7_image_13 : Dc cX7_image 13 (.aload_n 0) 1 14 := ⟨by decide +kernel, rfl⟩
theorem eX7_image_14 : Dc cX7_image 14 (.bipush 90) 2 16 := ⟨by decide +kernel, rfl⟩
theorem eX7_image_16 : Dc cX7_image 16 (.iload_n 1) 1 17 := ⟨by decide +kernel, rfl⟩
theorem eX7_image_17 : Dc cX7_image 17 (.imul) 1 18 := ⟨by decide +kernel, rfl⟩
theorem eX7_image_18 : Dc cX7_image 18 (.putfield 265) 3 21 := ⟨by decide +kernel, rfl⟩
theorem eX7_image_21 : Dc cX7_image 21 (.aload_n 0) 1 22 := ⟨by decide +kernel, rfl⟩
theorem eX7_image_22 : Dc cX7_image 22 (.iconst 1) 1 23 := ⟨by decide +kernel, rfl⟩
theorem eX7_image_23 : Dc cX7_image 23 (.putfield 261) 3 26 := ⟨by decide +kernel, rfl⟩
theorem eX7_image_26 : Dc cX7_image 26 (.aload_n 0) 1 27 := ⟨by decide +kernel, rfl⟩
theorem eX7_image_27 : Dc cX7_image 27 (.invokevirtual 271) 3 30 := ⟨by decide +kernel, rfl⟩
theorem eX7_image_30 : Dc cX7_image 30 (.aload_n 0) 1 31 := ⟨by decide +kernel, rfl⟩
theorem eX7_image_31 : Dc cX7_image 31 (.getfield 65) 3 34 := ⟨by decide +kernel, rfl⟩
theorem eX7_image_34 : Dc cX7_image 34 (.iload_n 1) 1 35 := ⟨by decide +kernel, rfl⟩
theorem eX7_image_35 : Dc cX7_image 35 (.iconst 1) 1 36 := ⟨by decide +kernel, rfl⟩
theorem eX7_image_36 : Dc cX7_image 36 (.bastore) 1 37 := ⟨by decide +kernel, rfl⟩
theorem eX7_image_37 : Dc cX7_image 37 (.iconst 1) 1 38 := ⟨by decide +kernel, rfl⟩
theorem eX7_image_38 : Dc cX7_image 38 (.ireturn) 1 39 := ⟨by decide +kernel, rfl⟩
def fX7_image (c : SS) (p1 : Int32) : Option (Int32 × SS) := if (fX7_in (p1).toInt64 (0 : Int64) (1 : Int64)) = (0 : Int32) then some ((-2 : Int32), c) else Option.bind (fX7_passAll (sF (sF c 29 ((90 : Int32) * p1)) 30 (1 : Int32))) (fun q2 => ckb 2 p1 (some ((1 : Int32), (sA q2 28 (p1).toNatClampNeg (1 : Int32)))))
set_option maxRecDepth 20000 in
theorem ctX7_image (l : Launch) (G : tg_G) (A : Nat → Nat) (c : SS) (p1 : Int32) {z : Int32 × SS} (h : fX7_image c p1 = some z) : Mt l G yX7_image cX7_image 2 (some .int) (tg_R 2 43) [.ref (A 0), .int p1] (wM G A c) (fun v w1 => v = some (.int z.1) ∧ w1 = wM G A z.2) := by
  refine Mt_of2 (own := "TramGodModel") (nm := "image") rfl rfl rfl (Nat.le_of_ble_eq_true rfl) (lv := [(0, .ref (A 0)), (1, .int p1)]) rfl ?_
  unfold fX7_image at h
  refine V_iload_n eX7_image_0 1 rfl ?_
  refine V_i2l eX7_image_1 ?_
  refine V_lconst (v := (0 : Int64)) eX7_image_2 rfl ?_
  refine V_lconst (v := (1 : Int64)) eX7_image_3 rfl ?_
  refine V_callSi (rest := []) eX7_image_4 (ctX7_in l G _ (p1).toInt64 (0 : Int64) (1 : Int64) rfl) tc_748 tw_746 tw_8 tw_747 hdX7_in rfl ⟨Nat.le_of_ble_eq_true rfl, Nat.le_of_ble_eq_true rfl⟩ rfl (Nat.le_of_ble_eq_true rfl) ⟨Nat.zero_le _, Nat.zero_le _⟩ ?_
  refine V_if_ne (tgt := 13) eX7_image_7 rfl (fun hb1 => ?_) (fun hb1 => ?_)
  · replace h := (if_neg hb1).symm.trans h
    refine V_aload_n eX7_image_13 0 rfl ?_
    refine V_bipush (v := (90 : Int32)) eX7_image_14 rfl ?_
    refine V_iload_n eX7_image_16 1 rfl ?_
    refine V_imul eX7_image_17 ?_
    refine V_put (w' := wM G A (sF c 29 ((90 : Int32) * p1))) eX7_image_18 inX7 tyX7 tyX7_ok nmX7 0 rfl rfl 29 (Nat.le_of_ble_eq_true rfl) tw_674 rfl rfl rfl rfl (Nat.le_of_ble_eq_true rfl) rfl ?_
    refine V_aload_n eX7_image_21 0 rfl ?_
    refine V_iconst (v := (1 : Int32)) eX7_image_22 rfl ?_
    refine V_put (w' := wM G A (sF (sF c 29 ((90 : Int32) * p1)) 30 (1 : Int32))) eX7_image_23 inX7 tyX7 tyX7_ok nmX7 0 rfl rfl 30 (Nat.le_of_ble_eq_true rfl) tw_675 rfl rfl rfl rfl (Nat.le_of_ble_eq_true rfl) rfl ?_
    refine V_aload_n eX7_image_26 0 rfl ?_
    obtain ⟨q2, hc2, h⟩ := Option.bind_eq_some_iff.mp h
    refine V_callVv (rest := []) eX7_image_27 (ctX7_passAll l G A (sF (sF c 29 ((90 : Int32) * p1)) 30 (1 : Int32)) hc2) tc_1009 tw_1006 tw_8 tw_1008 ts_46 0 rfl rfl hdX7_passAll rfl ⟨Nat.le_of_ble_eq_true rfl, Nat.le_of_ble_eq_true rfl⟩ rfl (Nat.le_of_ble_eq_true rfl) ⟨Nat.zero_le _, Nat.zero_le _⟩ ?_
    refine V_aload_n eX7_image_30 0 rfl ?_
    refine V_get (v := .ref (A 19)) eX7_image_31 inX7 0 rfl rfl 28 (Nat.le_of_ble_eq_true rfl) tw_673 rfl ?_
    refine V_iload_n eX7_image_34 1 rfl ?_
    refine V_iconst (v := (1 : Int32)) eX7_image_35 rfl ?_
    obtain ⟨hi3, h⟩ := ckb_some h
    refine V_zast (w' := wM G A (sA q2 28 (p1).toNatClampNeg (1 : Int32))) eX7_image_36 19 rfl hi3 rfl ?_
    refine V_iconst (v := (1 : Int32)) eX7_image_37 rfl ?_
    obtain rfl := Option.some.inj h
    exact V_ret eX7_image_38 rfl ⟨rfl, rfl⟩
  · replace h := (if_pos hb1).symm.trans h
    refine V_bipush (v := (-2 : Int32)) eX7_image_10 rfl ?_
    obtain rfl := Option.some.inj h
    exact V_ret eX7_image_12 rfl ⟨rfl, rfl⟩
theorem hdX7_restore : yX7_restore.cls ≠ "java/lang/invoke/MethodHandle" ∧ yX7_restore.cls ≠ "java/lang/invoke/VarHandle" ∧ (parseMethodDescriptor yX7_restore.desc).map (fun d => d.parameters.length) = some 1 := by decide +kernel
theorem eX7_restore_0 : Dc cX7_restore 0 (.iload_n 1) 1 1 := ⟨by decide +kernel, rfl⟩
theorem eX7_restore_1 : Dc cX7_restore 1 (.i2l) 1 2 := ⟨by decide +kernel, rfl⟩
theorem eX7_restore_2 : Dc cX7_restore 2 (.lconst 0) 1 3 := ⟨by decide +kernel, rfl⟩
theorem eX7_restore_3 : Dc cX7_restore 3 (.lconst 1) 1 4 := ⟨by decide +kernel, rfl⟩
theorem eX7_restore_4 : Dc cX7_restore 4 (.invokestatic 79) 3 7 := ⟨by decide +kernel, rfl⟩
theorem eX7_restore_7 : Dc cX7_restore 7 (.ifCond .ne 6) 3 10 := ⟨by decide +kernel, rfl⟩
theorem eX7_restore_10 : Dc cX7_restore 10 (.bipush (-2)) 2 12 := ⟨by decide +kernel, rfl⟩
theorem eX7_restore_12 : Dc cX7_restore 12 (.ireturn) 1 13 := ⟨by decide +kernel, rfl⟩
theorem eX7_restore_13 : Dc cX7_restore 13 (.aload_n 0) 1 14 := ⟨by decide +kernel, rfl⟩
theorem eX7_restore_14 : Dc cX7_restore 14 (.getfield 65) 3 17 := ⟨by decide +kernel, rfl⟩
theorem eX7_restore_17 : Dc cX7_restore 17 (.iload_n 1) 1 18 := ⟨by decide +kernel, rfl⟩
theorem eX7_restore_18 : Dc cX7_restore 18 (.baload) 1 19 := ⟨by decide +kernel, rfl⟩
theorem eX7_restore_19 : Dc cX7_restore 19 (.ifCond .ne 6) 3 22 := ⟨by decide +kernel, rfl⟩
theorem eX7_restore_22 : Dc cX7_restore 22 (.bipush (-3)) 2 24 := ⟨by decide +kernel, rfl⟩
theorem eX7_restore_24 : Dc cX7_restore 24 (.ireturn) 1 25 := ⟨by decide +kernel, rfl⟩
theorem eX7_restore_25 : Dc cX7_restore 25 (.aload_n 0) 1 26 := ⟨by decide +kernel, rfl⟩
theorem eX7_restore_26 : Dc cX7_restore 26 (.bipush 90) 2 28 := ⟨by decide +kernel, rfl⟩
theorem eX7_restore_28 : Dc cX7_restore 28 (.iload_n 1) 1 29 := ⟨by decide +kernel, rfl⟩
theorem eX7_restore_29 : Dc cX7_restore 29 (.imul) 1 30 := ⟨by decide +kernel, rfl⟩
theorem eX7_restore_30 : Dc cX7_restore 30 (.putfield 265) 3 33 := ⟨by decide +kernel, rfl⟩
theorem eX7_restore_33 : Dc cX7_restore 33 (.aload_n 0) 1 34 := ⟨by decide +kernel, rfl⟩
theorem eX7_restore_34 : Dc cX7_restore 34 (.iconst 0) 1 35 := ⟨by decide +kernel, rfl⟩
theorem eX7_restore_35 : Dc cX7_restore 35 (.putfield 261) 3 38 := ⟨by decide +kernel, rfl⟩
theorem eX7_restore_38 : Dc cX7_restore 38 (.aload_n 0) 1 39 := ⟨by decide +kernel, rfl⟩
theorem eX7_restore_39 : Dc cX7_restore 39 (.invokevirtual 271) 3 42 := ⟨by decide +kernel, rfl⟩
theorem eX7_restore_42 : Dc cX7_restore 42 (.iconst 1) 1 43 := ⟨by decide +kernel, rfl⟩
theorem eX7_restore_43 : Dc cX7_restore 43 (.ireturn) 1 44 := ⟨by decide +kernel, rfl⟩
def fX7_restore (c : SS) (p1 : Int32) : Option (Int32 × SS) := if (fX7_in (p1).toInt64 (0 : Int64) (1 : Int64)) = (0 : Int32) then some ((-2 : Int32), c) else ald 2 (c.2 28) p1 (fun v2 => if v2 = (0 : Int32) then some ((-3 : Int32), c) else Option.bind (fX7_passAll (sF (sF c 29 ((90 : Int32) * p1)) 30 (0 : Int32))) (fun q4 => some ((1 : Int32), q4)))
set_option maxRecDepth 20000 in
theorem ctX7_restore (l : Launch) (G : tg_G) (A : Nat → Nat) (c : SS) (p1 : Int32) {z : Int32 × SS} (h : fX7_restore c p1 = some z) : Mt l G yX7_restore cX7_restore 2 (some .int) (tg_R 2 43) [.ref (A 0), .int p1] (wM G A c) (fun v w1 => v = some (.int z.1) ∧ w1 = wM G A z.2) := by
  refine Mt_of2 (own := "TramGodModel") (nm := "restore") rfl rfl rfl (Nat.le_of_ble_eq_true rfl) (lv := [(0, .ref (A 0)), (1, .int p1)]) rfl ?_
  unfold fX7_restore at h
  refine V_iload_n eX7_restore_0 1 rfl ?_
  refine V_i2l eX7_restore_1 ?_
  refine V_lconst (v := (0 : Int64)) eX7_restore_2 rfl ?_
  refine V_lconst (v := (1 : Int64)) eX7_restore_3 rfl ?_
  refine V_callSi (rest := []) eX7_restore_4 (ctX7_in l G _ (p1).toInt64 (0 : Int64) (1 : Int64) rfl) tc_748 tw_746 tw_8 tw_747 hdX7_in rfl ⟨Nat.le_of_ble_eq_true rfl, Nat.le_of_ble_eq_true rfl⟩ rfl (Nat.le_of_ble_eq_true rfl) ⟨Nat.zero_le _, Nat.zero_le _⟩ ?_
  refine V_if_ne (tgt := 13) eX7_restore_7 rfl (fun hb1 => ?_) (fun hb1 => ?_)
  · replace h := (if_neg hb1).symm.trans h
    refine V_aload_n eX7_restore_13 0 rfl ?_
    refine V_get (v := .ref (A 19)) eX7_restore_14 inX7 0 rfl rfl 28 (Nat.le_of_ble_eq_true rfl) tw_673 rfl ?_
    refine V_iload_n eX7_restore_17 1 rfl ?_
    obtain ⟨v2, hi2, ev2, h⟩ := ald_some h
    refine V_zaldv eX7_restore_18 19 rfl hi2 ev2 ?_
    refine V_if_ne (tgt := 25) eX7_restore_19 rfl (fun hb3 => ?_) (fun hb3 => ?_)
    · replace h := (if_neg hb3).symm.trans h
      refine V_aload_n eX7_restore_25 0 rfl ?_
      refine V_bipush (v := (90 : Int32)) eX7_restore_26 rfl ?_
      refine V_iload_n eX7_restore_28 1 rfl ?_
      refine V_imul eX7_restore_29 ?_
      refine V_put (w' := wM G A (sF c 29 ((90 : Int32) * p1))) eX7_restore_30 inX7 tyX7 tyX7_ok nmX7 0 rfl rfl 29 (Nat.le_of_ble_eq_true rfl) tw_674 rfl rfl rfl rfl (Nat.le_of_ble_eq_true rfl) rfl ?_
      refine V_aload_n eX7_restore_33 0 rfl ?_
      refine V_iconst (v := (0 : Int32)) eX7_restore_34 rfl ?_
      refine V_put (w' := wM G A (sF (sF c 29 ((90 : Int32) * p1)) 30 (0 : Int32))) eX7_restore_35 inX7 tyX7 tyX7_ok nmX7 0 rfl rfl 30 (Nat.le_of_ble_eq_true rfl) tw_675 rfl rfl rfl rfl (Nat.le_of_ble_eq_true rfl) rfl ?_
      refine V_aload_n eX7_restore_38 0 rfl ?_
      obtain ⟨q4, hc4, h⟩ := Option.bind_eq_some_iff.mp h
      refine V_callVv (rest := []) eX7_restore_39 (ctX7_passAll l G A (sF (sF c 29 ((90 : Int32) * p1)) 30 (0 : Int32)) hc4) tc_1009 tw_1006 tw_8 tw_1008 ts_46 0 rfl rfl hdX7_passAll rfl ⟨Nat.le_of_ble_eq_true rfl, Nat.le_of_ble_eq_true rfl⟩ rfl (Nat.le_of_ble_eq_true rfl) ⟨Nat.zero_le _, Nat.zero_le _⟩ ?_
      refine V_iconst (v := (1 : Int32)) eX7_restore_42 rfl ?_
      obtain rfl := Option.some.inj h
      exact V_ret eX7_restore_43 rfl ⟨rfl, rfl⟩
    · replace h := (if_pos hb3).symm.trans h
      refine V_bipush (v := (-3 : Int32)) eX7_restore_22 rfl ?_
      obtain rfl := Option.some.inj h
      exact V_ret eX7_restore_24 rfl ⟨rfl, rfl⟩
  · replace h := (if_pos hb1).symm.trans h
    refine V_bipush (v := (-2 : Int32)) eX7_restore_10 rfl ?_
    obtain rfl := Option.some.inj h
    exact V_ret eX7_restore_12 rfl ⟨rfl, rfl⟩
theorem hdX7_toldOf : yX7_toldOf.cls ≠ "java/lang/invoke/MethodHandle" ∧ yX7_toldOf.cls ≠ "java/lang/invoke/VarHandle" ∧ (parseMethodDescriptor yX7_toldOf.desc).map (fun d => d.parameters.length) = some 2 := by decide +kernel
theorem eX7_toldOf_0 : Dc cX7_toldOf 0 (.aload_n 0) 1 1 := ⟨by decide +kernel, rfl⟩
theorem eX7_toldOf_1 : Dc cX7_toldOf 1 (.iload_n 1) 1 2 := ⟨by decide +kernel, rfl⟩
theorem eX7_toldOf_2 : Dc cX7_toldOf 2 (.invokevirtual 126) 3 5 := ⟨by decide +kernel, rfl⟩
theorem eX7_toldOf_5 : Dc cX7_toldOf 5 (.ifCond .ne 6) 3 8 := ⟨by decide +kernel, rfl⟩
theorem eX7_toldOf_8 : Dc cX7_toldOf 8 (.bipush (-2)) 2 10 := ⟨by decide +kernel, rfl⟩
theorem eX7_toldOf_10 : Dc cX7_toldOf 10 (.ireturn) 1 11 := ⟨by decide +kernel, rfl⟩
theorem eX7_toldOf_11 : Dc cX7_toldOf 11 (.iload_n 2) 1 12 := ⟨by decide +kernel, rfl⟩
theorem eX7_toldOf_12 : Dc cX7_toldOf 12 (.tableswitch 91 0 5 #[40, 47, 54, 64, 74, 84]) 40 52 := ⟨by decide +kernel, rfl⟩
theorem eX7_toldOf_52 : Dc cX7_toldOf 52 (.aload_n 0) 1 53 := ⟨by decide +kernel, rfl⟩
theorem eX7_toldOf_53 : Dc cX7_toldOf 53 (.getfield 13) 3 56 := ⟨by decide +kernel, rfl⟩
theorem eX7_toldOf_56 : Dc cX7_toldOf 56 (.iload_n 1) 1 57 := ⟨by decide +kernel, rfl⟩
theorem eX7_toldOf_57 : Dc cX7_toldOf 57 (.iaload) 1 58 := ⟨by decide +kernel, rfl⟩
theorem eX7_toldOf_58 : Dc cX7_toldOf 58 (.ireturn) 1 59 := ⟨by decide +kernel, rfl⟩
theorem eX7_toldOf_59 : Dc cX7_toldOf 59 (.aload_n 0) 1 60 := ⟨by decide +kernel, rfl⟩
theorem eX7_toldOf_60 : Dc cX7_toldOf 60 (.getfield 16) 3 63 := ⟨by decide +kernel, rfl⟩
theorem eX7_toldOf_63 : Dc cX7_toldOf 63 (.iload_n 1) 1 64 := ⟨by decide +kernel, rfl⟩
theorem eX7_toldOf_64 : Dc cX7_toldOf 64 (.iaload) 1 65 := ⟨by decide +kernel, rfl⟩
theorem eX7_toldOf_65 : Dc cX7_toldOf 65 (.ireturn) 1 66 := ⟨by decide +kernel, rfl⟩
theorem eX7_toldOf_66 : Dc cX7_toldOf 66 (.aload_n 0) 1 67 := ⟨by decide +kernel, rfl⟩
theorem eX7_toldOf_67 : Dc cX7_toldOf 67 (.getfield 19) 3 70 := ⟨by decide +kernel, rfl⟩
theorem eX7_toldOf_70 : Dc cX7_toldOf 70 (.iload_n 1) 1 71 := ⟨by decide +kernel, rfl⟩
theorem eX7_toldOf_71 : Dc cX7_toldOf 71 (.iaload) 1 72 := ⟨by decide +kernel, rfl⟩
theorem eX7_toldOf_72 : Dc cX7_toldOf 72 (.bipush 10) 2 74 := ⟨by decide +kernel, rfl⟩
theorem eX7_toldOf_74 : Dc cX7_toldOf 74 (.iadd) 1 75 := ⟨by decide +kernel, rfl⟩
theorem eX7_toldOf_75 : Dc cX7_toldOf 75 (.ireturn) 1 76 := ⟨by decide +kernel, rfl⟩
theorem eX7_toldOf_76 : Dc cX7_toldOf 76 (.aload_n 0) 1 77 := ⟨by decide +kernel, rfl⟩
theorem eX7_toldOf_77 : Dc cX7_toldOf 77 (.getfield 22) 3 80 := ⟨by decide +kernel, rfl⟩
theorem eX7_toldOf_80 : Dc cX7_toldOf 80 (.iload_n 1) 1 81 := ⟨by decide +kernel, rfl⟩
theorem eX7_toldOf_81 : Dc cX7_toldOf 81 (.iaload) 1 82 := ⟨by decide +kernel, rfl⟩
theorem eX7_toldOf_82 : Dc cX7_toldOf 82 (.bipush 10) 2 84 := ⟨by decide +kernel, rfl⟩
theorem eX7_toldOf_84 : Dc cX7_toldOf 84 (.iadd) 1 85 := ⟨by decide +kernel, rfl⟩
theorem eX7_toldOf_85 : Dc cX7_toldOf 85 (.ireturn) 1 86 := ⟨by decide +kernel, rfl⟩
theorem eX7_toldOf_86 : Dc cX7_toldOf 86 (.aload_n 0) 1 87 := ⟨by decide +kernel, rfl⟩
theorem eX7_toldOf_87 : Dc cX7_toldOf 87 (.getfield 25) 3 90 := ⟨by decide +kernel, rfl⟩
theorem eX7_toldOf_90 : Dc cX7_toldOf 90 (.iload_n 1) 1 91 := ⟨by decide +kernel, rfl⟩
theorem eX7_toldOf_91 : Dc cX7_toldOf 91 (.iaload) 1 92 := ⟨by decide +kernel, rfl⟩
theorem eX7_toldOf_92 : Dc cX7_toldOf 92 (.bipush 10) 2 94 := ⟨by decide +kernel, rfl⟩
theorem eX7_toldOf_94 : Dc cX7_toldOf 94 (.iadd) 1 95 := ⟨by decide +kernel, rfl⟩
theorem eX7_toldOf_95 : Dc cX7_toldOf 95 (.ireturn) 1 96 := ⟨by decide +kernel, rfl⟩
theorem eX7_toldOf_96 : Dc cX7_toldOf 96 (.aload_n 0) 1 97 := ⟨by decide +kernel, rfl⟩
theorem eX7_toldOf_97 : Dc cX7_toldOf 97 (.getfield 28) 3 100 := ⟨by decide +kernel, rfl⟩
theorem eX7_toldOf_100 : Dc cX7_toldOf 100 (.iload_n 1) 1 101 := ⟨by decide +kernel, rfl⟩
theorem eX7_toldOf_101 : Dc cX7_toldOf 101 (.iaload) 1 102 := ⟨by decide +kernel, rfl⟩
theorem eX7_toldOf_102 : Dc cX7_toldOf 102 (.ireturn) 1 103 := ⟨by decide +kernel, rfl⟩
theorem eX7_toldOf_103 : Dc cX7_toldOf 103 (.bipush (-2)) 2 105 := ⟨by decide +kernel, rfl⟩
theorem eX7_toldOf_105 : Dc cX7_toldOf 105 (.ireturn) 1 106 := ⟨by decide +kernel, rfl⟩
def fX7_toldOf (c : SS) (p1 : Int32) (p2 : Int32) : Option (Int32) := if (fX7_isThere c p1) = (0 : Int32) then some (-2 : Int32) else if p2 = (0 : Int32) then ald 8 (c.2 4) p1 (fun v3 => some v3) else (if p2 = (1 : Int32) then ald 8 (c.2 5) p1 (fun v5 => some v5) else (if p2 = (2 : Int32) then ald 8 (c.2 6) p1 (fun v7 => some (v7 + (10 : Int32))) else (if p2 = (3 : Int32) then ald 8 (c.2 7) p1 (fun v9 => some (v9 + (10 : Int32))) else (if p2 = (4 : Int32) then ald 8 (c.2 8) p1 (fun v11 => some (v11 + (10 : Int32))) else (if p2 = (5 : Int32) then ald 8 (c.2 9) p1 (fun v13 => some v13) else (swo p2 (0 : Int32) (5 : Int32) (some (-2 : Int32))))))))
set_option maxRecDepth 20000 in
theorem ctX7_toldOf (l : Launch) (G : tg_G) (A : Nat → Nat) (c : SS) (p1 : Int32) (p2 : Int32) {z : Int32} (h : fX7_toldOf c p1 p2 = some z) : Mt l G yX7_toldOf cX7_toldOf 3 (some .int) (tg_R 2 46) [.ref (A 0), .int p1, .int p2] (wM G A c) (fun v w1 => v = some (.int z) ∧ w1 = wM G A c) := by
  refine Mt_of2 (own := "TramGodModel") (nm := "toldOf") rfl rfl rfl (Nat.le_of_ble_eq_true rfl) (lv := [(0, .ref (A 0)), (1, .int p1), (2, .int p2)]) rfl ?_
  unfold fX7_toldOf at h
  refine V_aload_n eX7_toldOf_0 0 rfl ?_
  refine V_iload_n eX7_toldOf_1 1 rfl ?_
  refine V_callVi (rest := []) eX7_toldOf_2 (ctX7_isThere l G A c p1 rfl) tc_796 tw_793 tw_8 tw_795 ts_22 0 rfl rfl hdX7_isThere rfl ⟨Nat.le_of_ble_eq_true rfl, Nat.le_of_ble_eq_true rfl⟩ rfl (Nat.le_of_ble_eq_true rfl) ⟨Nat.zero_le _, Nat.zero_le _⟩ ?_
  refine V_if_ne (tgt := 11) eX7_toldOf_5 rfl (fun hb1 => ?_) (fun hb1 => ?_)
  · replace h := (if_neg hb1).symm.trans h
    refine V_iload_n eX7_toldOf_11 2 rfl ?_
    by_cases hs2 : p2 = (0 : Int32)
    · replace h := (if_pos hs2).symm.trans h
      refine V_tin (tgt := 52) (40) eX7_toldOf_12 (by rw [hs2]; decide) (by rw [hs2]; decide) (by rw [hs2]; decide) rfl ?_
      refine V_aload_n eX7_toldOf_52 0 rfl ?_
      refine V_get (v := .ref (A 2)) eX7_toldOf_53 inX7 0 rfl rfl 4 (Nat.le_of_ble_eq_true rfl) tw_649 rfl ?_
      refine V_iload_n eX7_toldOf_56 1 rfl ?_
      obtain ⟨v3, hi3, ev3, h⟩ := ald_some h
      refine V_ialdv eX7_toldOf_57 2 rfl hi3 ev3 ?_
      obtain rfl := Option.some.inj h
      exact V_ret eX7_toldOf_58 rfl ⟨rfl, rfl⟩
    replace h := (if_neg hs2).symm.trans h
    by_cases hs4 : p2 = (1 : Int32)
    · replace h := (if_pos hs4).symm.trans h
      refine V_tin (tgt := 59) (47) eX7_toldOf_12 (by rw [hs4]; decide) (by rw [hs4]; decide) (by rw [hs4]; decide) rfl ?_
      refine V_aload_n eX7_toldOf_59 0 rfl ?_
      refine V_get (v := .ref (A 3)) eX7_toldOf_60 inX7 0 rfl rfl 5 (Nat.le_of_ble_eq_true rfl) tw_650 rfl ?_
      refine V_iload_n eX7_toldOf_63 1 rfl ?_
      obtain ⟨v5, hi5, ev5, h⟩ := ald_some h
      refine V_ialdv eX7_toldOf_64 3 rfl hi5 ev5 ?_
      obtain rfl := Option.some.inj h
      exact V_ret eX7_toldOf_65 rfl ⟨rfl, rfl⟩
    replace h := (if_neg hs4).symm.trans h
    by_cases hs6 : p2 = (2 : Int32)
    · replace h := (if_pos hs6).symm.trans h
      refine V_tin (tgt := 66) (54) eX7_toldOf_12 (by rw [hs6]; decide) (by rw [hs6]; decide) (by rw [hs6]; decide) rfl ?_
      refine V_aload_n eX7_toldOf_66 0 rfl ?_
      refine V_get (v := .ref (A 4)) eX7_toldOf_67 inX7 0 rfl rfl 6 (Nat.le_of_ble_eq_true rfl) tw_651 rfl ?_
      refine V_iload_n eX7_toldOf_70 1 rfl ?_
      obtain ⟨v7, hi7, ev7, h⟩ := ald_some h
      refine V_ialdv eX7_toldOf_71 4 rfl hi7 ev7 ?_
      refine V_bipush (v := (10 : Int32)) eX7_toldOf_72 rfl ?_
      refine V_iadd eX7_toldOf_74 ?_
      obtain rfl := Option.some.inj h
      exact V_ret eX7_toldOf_75 rfl ⟨rfl, rfl⟩
    replace h := (if_neg hs6).symm.trans h
    by_cases hs8 : p2 = (3 : Int32)
    · replace h := (if_pos hs8).symm.trans h
      refine V_tin (tgt := 76) (64) eX7_toldOf_12 (by rw [hs8]; decide) (by rw [hs8]; decide) (by rw [hs8]; decide) rfl ?_
      refine V_aload_n eX7_toldOf_76 0 rfl ?_
      refine V_get (v := .ref (A 5)) eX7_toldOf_77 inX7 0 rfl rfl 7 (Nat.le_of_ble_eq_true rfl) tw_652 rfl ?_
      refine V_iload_n eX7_toldOf_80 1 rfl ?_
      obtain ⟨v9, hi9, ev9, h⟩ := ald_some h
      refine V_ialdv eX7_toldOf_81 5 rfl hi9 ev9 ?_
      refine V_bipush (v := (10 : Int32)) eX7_toldOf_82 rfl ?_
      refine V_iadd eX7_toldOf_84 ?_
      obtain rfl := Option.some.inj h
      exact V_ret eX7_toldOf_85 rfl ⟨rfl, rfl⟩
    replace h := (if_neg hs8).symm.trans h
    by_cases hs10 : p2 = (4 : Int32)
    · replace h := (if_pos hs10).symm.trans h
      refine V_tin (tgt := 86) (74) eX7_toldOf_12 (by rw [hs10]; decide) (by rw [hs10]; decide) (by rw [hs10]; decide) rfl ?_
      refine V_aload_n eX7_toldOf_86 0 rfl ?_
      refine V_get (v := .ref (A 6)) eX7_toldOf_87 inX7 0 rfl rfl 8 (Nat.le_of_ble_eq_true rfl) tw_653 rfl ?_
      refine V_iload_n eX7_toldOf_90 1 rfl ?_
      obtain ⟨v11, hi11, ev11, h⟩ := ald_some h
      refine V_ialdv eX7_toldOf_91 6 rfl hi11 ev11 ?_
      refine V_bipush (v := (10 : Int32)) eX7_toldOf_92 rfl ?_
      refine V_iadd eX7_toldOf_94 ?_
      obtain rfl := Option.some.inj h
      exact V_ret eX7_toldOf_95 rfl ⟨rfl, rfl⟩
    replace h := (if_neg hs10).symm.trans h
    by_cases hs12 : p2 = (5 : Int32)
    · replace h := (if_pos hs12).symm.trans h
      refine V_tin (tgt := 96) (84) eX7_toldOf_12 (by rw [hs12]; decide) (by rw [hs12]; decide) (by rw [hs12]; decide) rfl ?_
      refine V_aload_n eX7_toldOf_96 0 rfl ?_
      refine V_get (v := .ref (A 7)) eX7_toldOf_97 inX7 0 rfl rfl 9 (Nat.le_of_ble_eq_true rfl) tw_654 rfl ?_
      refine V_iload_n eX7_toldOf_100 1 rfl ?_
      obtain ⟨v13, hi13, ev13, h⟩ := ald_some h
      refine V_ialdv eX7_toldOf_101 7 rfl hi13 ev13 ?_
      obtain rfl := Option.some.inj h
      exact V_ret eX7_toldOf_102 rfl ⟨rfl, rfl⟩
    replace h := (if_neg hs12).symm.trans h
    obtain ⟨hs14, h⟩ := swo_some h
    refine V_tout (tgt := 103) eX7_toldOf_12 hs14 rfl ?_
    refine V_bipush (v := (-2 : Int32)) eX7_toldOf_103 rfl ?_
    obtain rfl := Option.some.inj h
    exact V_ret eX7_toldOf_105 rfl ⟨rfl, rfl⟩
  · replace h := (if_pos hb1).symm.trans h
    refine V_bipush (v := (-2 : Int32)) eX7_toldOf_8 rfl ?_
    obtain rfl := Option.some.inj h
    exact V_ret eX7_toldOf_10 rfl ⟨rfl, rfl⟩
theorem hdX7_told : yX7_told.cls ≠ "java/lang/invoke/MethodHandle" ∧ yX7_told.cls ≠ "java/lang/invoke/VarHandle" ∧ (parseMethodDescriptor yX7_told.desc).map (fun d => d.parameters.length) = some 1 := by decide +kernel
theorem eX7_told_0 : Dc cX7_told 0 (.iload_n 1) 1 1 := ⟨by decide +kernel, rfl⟩
theorem eX7_told_1 : Dc cX7_told 1 (.i2l) 1 2 := ⟨by decide +kernel, rfl⟩
theorem eX7_told_2 : Dc cX7_told 2 (.ldc2_w 229) 3 5 := ⟨by decide +kernel, rfl⟩
theorem eX7_told_5 : Dc cX7_told 5 (.ldc2_w 117) 3 8 := ⟨by decide +kernel, rfl⟩
theorem eX7_told_8 : Dc cX7_told 8 (.invokestatic 79) 3 11 := ⟨by decide +kernel, rfl⟩
theorem eX7_told_11 : Dc cX7_told 11 (.ifCond .eq 18) 3 14 := ⟨by decide +kernel, rfl⟩
theorem eX7_told_14 : Dc cX7_told 14 (.aload_n 0) 1 15 := ⟨by decide +kernel, rfl⟩
theorem eX7_told_15 : Dc cX7_told 15 (.iload_n 1) 1 16 := ⟨by decide +kernel, rfl⟩
theorem eX7_told_16 : Dc cX7_told 16 (.bipush 10) 2 18 := ⟨by decide +kernel, rfl⟩
theorem eX7_told_18 : Dc cX7_told 18 (.idiv) 1 19 := ⟨by decide +kernel, rfl⟩
theorem eX7_told_19 : Dc cX7_told 19 (.iconst 2) 1 20 := ⟨by decide +kernel, rfl⟩
theorem eX7_told_20 : Dc cX7_told 20 (.isub) 1 21 := ⟨by decide +kernel, rfl⟩
theorem eX7_told_21 : Dc cX7_told 21 (.iload_n 1) 1 22 := ⟨by decide +kernel, rfl⟩
theorem eX7_told_22 : Dc cX7_told 22 (.bipush 10) 2 24 := ⟨by decide +kernel, rfl⟩
theorem eX7_told_24 : Dc cX7_told 24 (.irem) 1 25 := ⟨by decide +kernel, rfl⟩
theorem eX7_told_25 : Dc cX7_told 25 (.invokevirtual 274) 3 28 := ⟨by decide +kernel, rfl⟩
theorem eX7_told_28 : Dc cX7_told 28 (.ireturn) 1 29 := ⟨by decide +kernel, rfl⟩
theorem eX7_told_29 : Dc cX7_told 29 (.iload_n 1) 1 30 := ⟨by decide +kernel, rfl⟩
theorem eX7_told_30 : Dc cX7_told 30 (.i2l) 1 31 := ⟨by decide +kernel, rfl⟩
theorem eX7_told_31 : Dc cX7_told 31 (.ldc2_w 231) 3 34 := ⟨by decide +kernel, rfl⟩
theorem eX7_told_34 : Dc cX7_told 34 (.ldc2_w 115) 3 37 := ⟨by decide +kernel, rfl⟩
theorem eX7_told_37 : Dc cX7_told 37 (.aload_n 0) 1 38 := ⟨by decide +kernel, rfl⟩
theorem eX7_told_38 : Dc cX7_told 38 (.getfield 69) 3 41 := ⟨by decide +kernel, rfl⟩
theorem eX7_told_41 : Dc cX7_told 41 (.i2l) 1 42 := ⟨by decide +kernel, rfl⟩
theorem eX7_told_42 : Dc cX7_told 42 (.ladd) 1 43 := ⟨by decide +kernel, rfl⟩
theorem eX7_told_43 : Dc cX7_told 43 (.invokestatic 79) 3 46 := ⟨by decide +kernel, rfl⟩
theorem eX7_told_46 : Dc cX7_told 46 (.ifCond .eq 13) 3 49 := ⟨by decide +kernel, rfl⟩
theorem eX7_told_49 : Dc cX7_told 49 (.aload_n 0) 1 50 := ⟨by decide +kernel, rfl⟩
theorem eX7_told_50 : Dc cX7_told 50 (.getfield 7) 3 53 := ⟨by decide +kernel, rfl⟩
theorem eX7_told_53 : Dc cX7_told 53 (.iload_n 1) 1 54 := ⟨by decide +kernel, rfl⟩
theorem eX7_told_54 : Dc cX7_told 54 (.bipush 10) 2 56 := ⟨by decide +kernel, rfl⟩
theorem eX7_told_56 : Dc cX7_told 56 (.isub) 1 57 := ⟨by decide +kernel, rfl⟩
theorem eX7_told_57 : Dc cX7_told 57 (.iaload) 1 58 := ⟨by decide +kernel, rfl⟩
theorem eX7_told_58 : Dc cX7_told 58 (.ireturn) 1 59 := ⟨by decide +kernel, rfl⟩
theorem eX7_told_59 : Dc cX7_told 59 (.iload_n 1) 1 60 := ⟨by decide +kernel, rfl⟩
theorem eX7_told_60 : Dc cX7_told 60 (.tableswitch 79 0 6 #[44, 49, 54, 59, 64, 69, 74]) 44 104 := ⟨by decide +kernel, rfl⟩
theorem eX7_told_104 : Dc cX7_told 104 (.aload_n 0) 1 105 := ⟨by decide +kernel, rfl⟩
theorem eX7_told_105 : Dc cX7_told 105 (.getfield 95) 3 108 := ⟨by decide +kernel, rfl⟩
theorem eX7_told_108 : Dc cX7_told 108 (.ireturn) 1 109 := ⟨by decide +kernel, rfl⟩
theorem eX7_told_109 : Dc cX7_told 109 (.aload_n 0) 1 110 := ⟨by decide +kernel, rfl⟩
theorem eX7_told_110 : Dc cX7_told 110 (.getfield 69) 3 113 := ⟨by decide +kernel, rfl⟩
theorem eX7_told_113 : Dc cX7_told 113 (.ireturn) 1 114 := ⟨by decide +kernel, rfl⟩
theorem eX7_told_114 : Dc cX7_told 114 (.aload_n 0) 1 115 := ⟨by decide +kernel, rfl⟩
theorem eX7_told_115 : Dc cX7_told 115 (.getfield 83) 3 118 := ⟨by decide +kernel, rfl⟩
theorem eX7_told_118 : Dc cX7_told 118 (.ireturn) 1 119 := ⟨by decide +kernel, rfl⟩
theorem eX7_told_119 : Dc cX7_told 119 (.aload_n 0) 1 120 := ⟨by decide +kernel, rfl⟩
theorem eX7_told_120 : Dc cX7_told 120 (.getfield 88) 3 123 := ⟨by decide +kernel, rfl⟩
theorem eX7_told_123 : Dc cX7_told 123 (.ireturn) 1 124 := ⟨by decide +kernel, rfl⟩
theorem eX7_told_124 : Dc cX7_told 124 (.aload_n 0) 1 125 := ⟨by decide +kernel, rfl⟩
theorem eX7_told_125 : Dc cX7_told 125 (.getfield 73) 3 128 := ⟨by decide +kernel, rfl⟩
theorem eX7_told_128 : Dc cX7_told 128 (.ireturn) 1 129 := ⟨by decide +kernel, rfl⟩
theorem eX7_told_129 : Dc cX7_told 129 (.aload_n 0) 1 130 := ⟨by decide +kernel, rfl⟩
theorem eX7_told_130 : Dc cX7_told 130 (.getfield 76) 3 133 := ⟨by decide +kernel, rfl⟩
theorem eX7_told_133 : Dc cX7_told 133 (.ireturn) 1 134 := ⟨by decide +kernel, rfl⟩
theorem eX7_told_134 : Dc cX7_told 134 (.aload_n 0) 1 135 := ⟨by decide +kernel, rfl⟩
theorem eX7_told_135 : Dc cX7_told 135 (.getfield 106) 3 138 := ⟨by decide +kernel, rfl⟩
theorem eX7_told_138 : Dc cX7_told 138 (.ireturn) 1 139 := ⟨by decide +kernel, rfl⟩
theorem eX7_told_139 : Dc cX7_told 139 (.bipush (-2)) 2 141 := ⟨by decide +kernel, rfl⟩
theorem eX7_told_141 : Dc cX7_told 141 (.ireturn) 1 142 := ⟨by decide +kernel, rfl⟩
def fX7_told (c : SS) (p1 : Int32) : Option (Int32) := if (fX7_in (p1).toInt64 (20 : Int64) (99 : Int64)) = (0 : Int32) then if (fX7_in (p1).toInt64 (10 : Int64) ((9 : Int64) + ((c.1 0)).toInt64)) = (0 : Int32) then if p1 = (0 : Int32) then some (c.1 16) else (if p1 = (1 : Int32) then some (c.1 0) else (if p1 = (2 : Int32) then some (c.1 2) else (if p1 = (3 : Int32) then some (c.1 3) else (if p1 = (4 : Int32) then some (c.1 10) else (if p1 = (5 : Int32) then some (c.1 11) else (if p1 = (6 : Int32) then some (c.1 14) else (swo p1 (0 : Int32) (6 : Int32) (some (-2 : Int32))))))))) else ald 6 (c.2 1) (p1 - (10 : Int32)) (fun v11 => some v11) else Option.bind (fX7_toldOf c ((p1 / (10 : Int32)) - (2 : Int32)) (irm p1 (10 : Int32))) (fun q12 => some q12)
set_option maxRecDepth 20000 in
theorem ctX7_told (l : Launch) (G : tg_G) (A : Nat → Nat) (c : SS) (p1 : Int32) {z : Int32} (h : fX7_told c p1 = some z) : Mt l G yX7_told cX7_told 2 (some .int) (tg_R 3 68) [.ref (A 0), .int p1] (wM G A c) (fun v w1 => v = some (.int z) ∧ w1 = wM G A c) := by
  refine Mt_of2 (own := "TramGodModel") (nm := "told") rfl rfl rfl (Nat.le_of_ble_eq_true rfl) (lv := [(0, .ref (A 0)), (1, .int p1)]) rfl ?_
  unfold fX7_told at h
  refine V_iload_n eX7_told_0 1 rfl ?_
  refine V_i2l eX7_told_1 ?_
  refine V_ldc2 eX7_told_2 tw_973 ?_
  refine V_ldc2 eX7_told_5 tw_780 ?_
  refine V_callSi (rest := []) eX7_told_8 (ctX7_in l G _ (p1).toInt64 (20 : Int64) (99 : Int64) rfl) tc_748 tw_746 tw_8 tw_747 hdX7_in rfl ⟨Nat.le_of_ble_eq_true rfl, Nat.le_of_ble_eq_true rfl⟩ rfl (Nat.le_of_ble_eq_true rfl) ⟨Nat.zero_le _, Nat.zero_le _⟩ ?_
  refine V_if_eq (tgt := 29) eX7_told_11 rfl (fun hb1 => ?_) (fun hb1 => ?_)
  · replace h := (if_pos hb1).symm.trans h
    refine V_iload_n eX7_told_29 1 rfl ?_
    refine V_i2l eX7_told_30 ?_
    refine V_ldc2 eX7_told_31 tw_974 ?_
    refine V_ldc2 eX7_told_34 tw_785 ?_
    refine V_aload_n eX7_told_37 0 rfl ?_
    refine V_get (v := .int (c.1 0)) eX7_told_38 inX7 0 rfl rfl 0 (Nat.le_of_ble_eq_true rfl) tw_645 rfl ?_
    refine V_i2l eX7_told_41 ?_
    refine V_ladd eX7_told_42 ?_
    refine V_callSi (rest := []) eX7_told_43 (ctX7_in l G _ (p1).toInt64 (10 : Int64) ((9 : Int64) + ((c.1 0)).toInt64) rfl) tc_748 tw_746 tw_8 tw_747 hdX7_in rfl ⟨Nat.le_of_ble_eq_true rfl, Nat.le_of_ble_eq_true rfl⟩ rfl (Nat.le_of_ble_eq_true rfl) ⟨Nat.zero_le _, Nat.zero_le _⟩ ?_
    refine V_if_eq (tgt := 59) eX7_told_46 rfl (fun hb2 => ?_) (fun hb2 => ?_)
    · replace h := (if_pos hb2).symm.trans h
      refine V_iload_n eX7_told_59 1 rfl ?_
      by_cases hs3 : p1 = (0 : Int32)
      · replace h := (if_pos hs3).symm.trans h
        refine V_tin (tgt := 104) (44) eX7_told_60 (by rw [hs3]; decide) (by rw [hs3]; decide) (by rw [hs3]; decide) rfl ?_
        refine V_aload_n eX7_told_104 0 rfl ?_
        refine V_get (v := .int (c.1 16)) eX7_told_105 inX7 0 rfl rfl 16 (Nat.le_of_ble_eq_true rfl) tw_661 rfl ?_
        obtain rfl := Option.some.inj h
        exact V_ret eX7_told_108 rfl ⟨rfl, rfl⟩
      replace h := (if_neg hs3).symm.trans h
      by_cases hs4 : p1 = (1 : Int32)
      · replace h := (if_pos hs4).symm.trans h
        refine V_tin (tgt := 109) (49) eX7_told_60 (by rw [hs4]; decide) (by rw [hs4]; decide) (by rw [hs4]; decide) rfl ?_
        refine V_aload_n eX7_told_109 0 rfl ?_
        refine V_get (v := .int (c.1 0)) eX7_told_110 inX7 0 rfl rfl 0 (Nat.le_of_ble_eq_true rfl) tw_645 rfl ?_
        obtain rfl := Option.some.inj h
        exact V_ret eX7_told_113 rfl ⟨rfl, rfl⟩
      replace h := (if_neg hs4).symm.trans h
      by_cases hs5 : p1 = (2 : Int32)
      · replace h := (if_pos hs5).symm.trans h
        refine V_tin (tgt := 114) (54) eX7_told_60 (by rw [hs5]; decide) (by rw [hs5]; decide) (by rw [hs5]; decide) rfl ?_
        refine V_aload_n eX7_told_114 0 rfl ?_
        refine V_get (v := .int (c.1 2)) eX7_told_115 inX7 0 rfl rfl 2 (Nat.le_of_ble_eq_true rfl) tw_647 rfl ?_
        obtain rfl := Option.some.inj h
        exact V_ret eX7_told_118 rfl ⟨rfl, rfl⟩
      replace h := (if_neg hs5).symm.trans h
      by_cases hs6 : p1 = (3 : Int32)
      · replace h := (if_pos hs6).symm.trans h
        refine V_tin (tgt := 119) (59) eX7_told_60 (by rw [hs6]; decide) (by rw [hs6]; decide) (by rw [hs6]; decide) rfl ?_
        refine V_aload_n eX7_told_119 0 rfl ?_
        refine V_get (v := .int (c.1 3)) eX7_told_120 inX7 0 rfl rfl 3 (Nat.le_of_ble_eq_true rfl) tw_648 rfl ?_
        obtain rfl := Option.some.inj h
        exact V_ret eX7_told_123 rfl ⟨rfl, rfl⟩
      replace h := (if_neg hs6).symm.trans h
      by_cases hs7 : p1 = (4 : Int32)
      · replace h := (if_pos hs7).symm.trans h
        refine V_tin (tgt := 124) (64) eX7_told_60 (by rw [hs7]; decide) (by rw [hs7]; decide) (by rw [hs7]; decide) rfl ?_
        refine V_aload_n eX7_told_124 0 rfl ?_
        refine V_get (v := .int (c.1 10)) eX7_told_125 inX7 0 rfl rfl 10 (Nat.le_of_ble_eq_true rfl) tw_655 rfl ?_
        obtain rfl := Option.some.inj h
        exact V_ret eX7_told_128 rfl ⟨rfl, rfl⟩
      replace h := (if_neg hs7).symm.trans h
      by_cases hs8 : p1 = (5 : Int32)
      · replace h := (if_pos hs8).symm.trans h
        refine V_tin (tgt := 129) (69) eX7_told_60 (by rw [hs8]; decide) (by rw [hs8]; decide) (by rw [hs8]; decide) rfl ?_
        refine V_aload_n eX7_told_129 0 rfl ?_
        refine V_get (v := .int (c.1 11)) eX7_told_130 inX7 0 rfl rfl 11 (Nat.le_of_ble_eq_true rfl) tw_656 rfl ?_
        obtain rfl := Option.some.inj h
        exact V_ret eX7_told_133 rfl ⟨rfl, rfl⟩
      replace h := (if_neg hs8).symm.trans h
      by_cases hs9 : p1 = (6 : Int32)
      · replace h := (if_pos hs9).symm.trans h
        refine V_tin (tgt := 134) (74) eX7_told_60 (by rw [hs9]; decide) (by rw [hs9]; decide) (by rw [hs9]; decide) rfl ?_
        refine V_aload_n eX7_told_134 0 rfl ?_
        refine V_get (v := .int (c.1 14)) eX7_told_135 inX7 0 rfl rfl 14 (Nat.le_of_ble_eq_true rfl) tw_659 rfl ?_
        obtain rfl := Option.some.inj h
        exact V_ret eX7_told_138 rfl ⟨rfl, rfl⟩
      replace h := (if_neg hs9).symm.trans h
      obtain ⟨hs10, h⟩ := swo_some h
      refine V_tout (tgt := 139) eX7_told_60 hs10 rfl ?_
      refine V_bipush (v := (-2 : Int32)) eX7_told_139 rfl ?_
      obtain rfl := Option.some.inj h
      exact V_ret eX7_told_141 rfl ⟨rfl, rfl⟩
    · replace h := (if_neg hb2).symm.trans h
      refine V_aload_n eX7_told_49 0 rfl ?_
      refine V_get (v := .ref (A 1)) eX7_told_50 inX7 0 rfl rfl 1 (Nat.le_of_ble_eq_true rfl) tw_646 rfl ?_
      refine V_iload_n eX7_told_53 1 rfl ?_
      refine V_bipush (v := (10 : Int32)) eX7_told_54 rfl ?_
      refine V_isub eX7_told_56 ?_
      obtain ⟨v11, hi11, ev11, h⟩ := ald_some h
      refine V_ialdv eX7_told_57 1 rfl hi11 ev11 ?_
      obtain rfl := Option.some.inj h
      exact V_ret eX7_told_58 rfl ⟨rfl, rfl⟩
  · replace h := (if_neg hb1).symm.trans h
    refine V_aload_n eX7_told_14 0 rfl ?_
    refine V_iload_n eX7_told_15 1 rfl ?_
    refine V_bipush (v := (10 : Int32)) eX7_told_16 rfl ?_
    refine V_idiv eX7_told_18 (by decide) ?_
    refine V_iconst (v := (2 : Int32)) eX7_told_19 rfl ?_
    refine V_isub eX7_told_20 ?_
    refine V_iload_n eX7_told_21 1 rfl ?_
    refine V_bipush (v := (10 : Int32)) eX7_told_22 rfl ?_
    refine V_irem eX7_told_24 (by decide) ?_
    obtain ⟨q12, hc12, h⟩ := Option.bind_eq_some_iff.mp h
    refine V_callVi (rest := []) eX7_told_25 (ctX7_toldOf l G A c ((p1 / (10 : Int32)) - (2 : Int32)) (irm p1 (10 : Int32)) hc12) tc_1025 tw_1022 tw_8 tw_1024 ts_48 0 rfl rfl hdX7_toldOf rfl ⟨Nat.le_of_ble_eq_true rfl, Nat.le_of_ble_eq_true rfl⟩ rfl (Nat.le_of_ble_eq_true rfl) ⟨Nat.zero_le _, Nat.zero_le _⟩ ?_
    obtain rfl := Option.some.inj h
    exact V_ret eX7_told_28 rfl ⟨rfl, rfl⟩
