theorem hdX7_best : yX7_best.cls ≠ "java/lang/invoke/MethodHandle" ∧ yX7_best.cls ≠ "java/lang/invoke/VarHandle" ∧ (parseMethodDescriptor yX7_best.desc).map (fun d => d.parameters.length) = some 1 := by decide +kernel
theorem eX7_best_0 : Dc cX7_best 0 (.iload_n 1) 1 1 := ⟨by decide +kernel, rfl⟩
theorem eX7_best_1 : Dc cX7_best 1 (.iconst (-1)) 1 2 := ⟨by decide +kernel, rfl⟩
theorem eX7_best_2 : Dc cX7_best 2 (.if_icmp .eq 13) 3 5 := ⟨by decide +kernel, rfl⟩
theorem eX7_best_5 : Dc cX7_best 5 (.aload_n 0) 1 6 := ⟨by decide +kernel, rfl⟩
theorem eX7_best_6 : Dc cX7_best 6 (.iload_n 1) 1 7 := ⟨by decide +kernel, rfl⟩
theorem eX7_best_7 : Dc cX7_best 7 (.invokevirtual 109) 3 10 := ⟨by decide +kernel, rfl⟩
theorem eX7_best_10 : Dc cX7_best 10 (.ifCond .ne 5) 3 13 := ⟨by decide +kernel, rfl⟩
theorem eX7_best_13 : Dc cX7_best 13 (.iconst (-1)) 1 14 := ⟨by decide +kernel, rfl⟩
theorem eX7_best_14 : Dc cX7_best 14 (.ireturn) 1 15 := ⟨by decide +kernel, rfl⟩
theorem eX7_best_15 : Dc cX7_best 15 (.aload_n 0) 1 16 := ⟨by decide +kernel, rfl⟩
theorem eX7_best_16 : Dc cX7_best 16 (.aload_n 0) 1 17 := ⟨by decide +kernel, rfl⟩
theorem eX7_best_17 : Dc cX7_best 17 (.getfield 73) 3 20 := ⟨by decide +kernel, rfl⟩
theorem eX7_best_20 : Dc cX7_best 20 (.sipush 255) 3 23 := ⟨by decide +kernel, rfl⟩
theorem eX7_best_23 : Dc cX7_best 23 (.invokevirtual 180) 3 26 := ⟨by decide +kernel, rfl⟩
theorem eX7_best_26 : Dc cX7_best 26 (.istore_n 2) 1 27 := ⟨by decide +kernel, rfl⟩
theorem eX7_best_27 : Dc cX7_best 27 (.iload_n 1) 1 28 := ⟨by decide +kernel, rfl⟩
theorem eX7_best_28 : Dc cX7_best 28 (.iconst (-1)) 1 29 := ⟨by decide +kernel, rfl⟩
theorem eX7_best_29 : Dc cX7_best 29 (.if_icmp .ne 11) 3 32 := ⟨by decide +kernel, rfl⟩
theorem eX7_best_32 : Dc cX7_best 32 (.iload_n 2) 1 33 := ⟨by decide +kernel, rfl⟩
theorem eX7_best_33 : Dc cX7_best 33 (.sipush 1000) 3 36 := ⟨by decide +kernel, rfl⟩
theorem eX7_best_36 : Dc cX7_best 36 (.iadd) 1 37 := ⟨by decide +kernel, rfl⟩
theorem eX7_best_37 : Dc cX7_best 37 (.goto 9) 3 40 := ⟨by decide +kernel, rfl⟩
theorem eX7_best_40 : Dc cX7_best 40 (.aload_n 0) 1 41 := ⟨by decide +kernel, rfl⟩
theorem eX7_best_41 : Dc cX7_best 41 (.getfield 46) 3 44 := ⟨by decide +kernel, rfl⟩
theorem eX7_best_44 : Dc cX7_best 44 (.iload_n 1) 1 45 := ⟨by decide +kernel, rfl⟩
theorem eX7_best_45 : Dc cX7_best 45 (.iaload) 1 46 := ⟨by decide +kernel, rfl⟩
theorem eX7_best_46 : Dc cX7_best 46 (.ireturn) 1 47 := ⟨by decide +kernel, rfl⟩
def fX7_best (c : SS) (p1 : Int32) : Option (Int32 × SS) := jn (fun (_ : Unit) => Option.bind (fX7_bestBy c (c.1 10) (255 : Int32)) (fun q1 => if p1 = (-1 : Int32) then some ((q1.1 + (1000 : Int32)), q1.2) else ald 6 (q1.2.2 21) p1 (fun v3 => some (v3, q1.2)))) (fun j15 => if p1 = (-1 : Int32) then j15 () else if (fX7_isStop c p1) = (0 : Int32) then some ((-1 : Int32), c) else j15 ())
set_option maxRecDepth 20000 in
theorem ctX7_best (l : Launch) (G : tg_G) (A : Nat → Nat) (c : SS) (p1 : Int32) {z : Int32 × SS} (h : fX7_best c p1 = some z) : Mt l G yX7_best cX7_best 3 (some .int) (tg_R 4 96) [.ref (A 0), .int p1] (wM G A c) (fun v w1 => v = some (.int z.1) ∧ w1 = wM G A z.2) := by
  refine Mt_of2 (own := "TramGodModel") (nm := "best") rfl rfl rfl (Nat.le_of_ble_eq_true rfl) (lv := [(0, .ref (A 0)), (1, .int p1)]) rfl ?_
  unfold fX7_best at h
  refine V_iload_n eX7_best_0 1 rfl ?_
  refine V_iconst (v := (-1 : Int32)) eX7_best_1 rfl ?_
  refine jn_elim h (fun j => j () = some z → V l G (tg_Zm G (fun v w1 => v = some (.int z.1) ∧ w1 = wM G A z.2) 0 0) tg_E0 (tg_R 4 96) "TramGodModel" "best" cX7_best 3 (some .int) 15 [(0, .ref (A 0)), (1, .int p1)] [] (wM G A c) 0 0) ?_ (fun j15 hj15 h => ?_)
  · intro h
    refine V_aload_n eX7_best_15 0 rfl ?_
    refine V_aload_n eX7_best_16 0 rfl ?_
    refine V_get (v := .int (c.1 10)) eX7_best_17 inX7 0 rfl rfl 10 (Nat.le_of_ble_eq_true rfl) tw_655 rfl ?_
    refine V_sipush (v := (255 : Int32)) eX7_best_20 rfl ?_
    obtain ⟨q1, hc1, h⟩ := Option.bind_eq_some_iff.mp h
    refine V_callVi (rest := []) eX7_best_23 (ctX7_bestBy l G A c (c.1 10) (255 : Int32) hc1) tc_866 tw_863 tw_8 tw_865 ts_31 0 rfl rfl hdX7_bestBy rfl ⟨Nat.le_of_ble_eq_true rfl, Nat.le_of_ble_eq_true rfl⟩ rfl (Nat.le_of_ble_eq_true rfl) ⟨Nat.zero_le _, Nat.zero_le _⟩ ?_
    refine V_istore_n (lv' := [(2, .int q1.1), (0, .ref (A 0)), (1, .int p1)]) eX7_best_26 (Nat.le_of_ble_eq_true rfl) rfl ?_
    refine V_iload_n eX7_best_27 2 rfl ?_
    refine V_iconst (v := (-1 : Int32)) eX7_best_28 rfl ?_
    refine V_icmp_ne (tgt := 40) eX7_best_29 rfl (fun hb2 => ?_) (fun hb2 => ?_)
    · replace h := (if_neg hb2).symm.trans h
      refine V_aload_n eX7_best_40 1 rfl ?_
      refine V_get (v := .ref (A 13)) eX7_best_41 inX7 0 rfl rfl 21 (Nat.le_of_ble_eq_true rfl) tw_666 rfl ?_
      refine V_iload_n eX7_best_44 2 rfl ?_
      obtain ⟨v3, hi3, ev3, h⟩ := ald_some h
      refine V_ialdv eX7_best_45 13 rfl hi3 ev3 ?_
      obtain rfl := Option.some.inj h
      exact V_ret eX7_best_46 rfl ⟨rfl, rfl⟩
    · replace h := (if_pos hb2).symm.trans h
      refine V_iload_n eX7_best_32 0 rfl ?_
      refine V_sipush (v := (1000 : Int32)) eX7_best_33 rfl ?_
      refine V_iadd eX7_best_36 ?_
      refine V_goto (tgt := 46) eX7_best_37 rfl ?_
      obtain rfl := Option.some.inj h
      exact V_ret eX7_best_46 rfl ⟨rfl, rfl⟩
  refine V_icmp_eq (tgt := 15) eX7_best_2 rfl (fun hb4 => ?_) (fun hb4 => ?_)
  · replace h := (if_pos hb4).symm.trans h
    exact hj15 h
  · replace h := (if_neg hb4).symm.trans h
    refine V_aload_n eX7_best_5 0 rfl ?_
    refine V_iload_n eX7_best_6 1 rfl ?_
    refine V_callVi (rest := []) eX7_best_7 (ctX7_isStop l G A c p1 rfl) tc_774 tw_771 tw_8 tw_773 ts_21 0 rfl rfl hdX7_isStop rfl ⟨Nat.le_of_ble_eq_true rfl, Nat.le_of_ble_eq_true rfl⟩ rfl (Nat.le_of_ble_eq_true rfl) ⟨Nat.zero_le _, Nat.zero_le _⟩ ?_
    refine V_if_ne (tgt := 15) eX7_best_10 rfl (fun hb5 => ?_) (fun hb5 => ?_)
    · replace h := (if_neg hb5).symm.trans h
      exact hj15 h
    · replace h := (if_pos hb5).symm.trans h
      refine V_iconst (v := (-1 : Int32)) eX7_best_13 rfl ?_
      obtain rfl := Option.some.inj h
      exact V_ret eX7_best_14 rfl ⟨rfl, rfl⟩
theorem hdX7_worth : yX7_worth.cls ≠ "java/lang/invoke/MethodHandle" ∧ yX7_worth.cls ≠ "java/lang/invoke/VarHandle" ∧ (parseMethodDescriptor yX7_worth.desc).map (fun d => d.parameters.length) = some 0 := by decide +kernel
theorem eX7_worth_0 : Dc cX7_worth 0 (.aload_n 0) 1 1 := ⟨by decide +kernel, rfl⟩
theorem eX7_worth_1 : Dc cX7_worth 1 (.aload_n 0) 1 2 := ⟨by decide +kernel, rfl⟩
theorem eX7_worth_2 : Dc cX7_worth 2 (.getfield 73) 3 5 := ⟨by decide +kernel, rfl⟩
theorem eX7_worth_5 : Dc cX7_worth 5 (.iconst 1) 1 6 := ⟨by decide +kernel, rfl⟩
theorem eX7_worth_6 : Dc cX7_worth 6 (.iadd) 1 7 := ⟨by decide +kernel, rfl⟩
theorem eX7_worth_7 : Dc cX7_worth 7 (.sipush 255) 3 10 := ⟨by decide +kernel, rfl⟩
theorem eX7_worth_10 : Dc cX7_worth 10 (.invokevirtual 180) 3 13 := ⟨by decide +kernel, rfl⟩
theorem eX7_worth_13 : Dc cX7_worth 13 (.aload_n 0) 1 14 := ⟨by decide +kernel, rfl⟩
theorem eX7_worth_14 : Dc cX7_worth 14 (.aload_n 0) 1 15 := ⟨by decide +kernel, rfl⟩
theorem eX7_worth_15 : Dc cX7_worth 15 (.getfield 73) 3 18 := ⟨by decide +kernel, rfl⟩
theorem eX7_worth_18 : Dc cX7_worth 18 (.sipush 255) 3 21 := ⟨by decide +kernel, rfl⟩
theorem eX7_worth_21 : Dc cX7_worth 21 (.invokevirtual 180) 3 24 := ⟨by decide +kernel, rfl⟩
theorem eX7_worth_24 : Dc cX7_worth 24 (.isub) 1 25 := ⟨by decide +kernel, rfl⟩
theorem eX7_worth_25 : Dc cX7_worth 25 (.ireturn) 1 26 := ⟨by decide +kernel, rfl⟩
def fX7_worth (c : SS)  : Option (Int32 × SS) := Option.bind (fX7_bestBy c ((c.1 10) + (1 : Int32)) (255 : Int32)) (fun q1 => Option.bind (fX7_bestBy q1.2 (q1.2.1 10) (255 : Int32)) (fun q2 => some ((q1.1 - q2.1), q2.2)))
set_option maxRecDepth 20000 in
theorem ctX7_worth (l : Launch) (G : tg_G) (A : Nat → Nat) (c : SS)  {z : Int32 × SS} (h : fX7_worth c  = some z) : Mt l G yX7_worth cX7_worth 1 (some .int) (tg_R 4 96) [.ref (A 0)] (wM G A c) (fun v w1 => v = some (.int z.1) ∧ w1 = wM G A z.2) := by
  refine Mt_of2 (own := "TramGodModel") (nm := "worth") rfl rfl rfl (Nat.le_of_ble_eq_true rfl) (lv := [(0, .ref (A 0))]) rfl ?_
  unfold fX7_worth at h
  refine V_aload_n eX7_worth_0 0 rfl ?_
  refine V_aload_n eX7_worth_1 0 rfl ?_
  refine V_get (v := .int (c.1 10)) eX7_worth_2 inX7 0 rfl rfl 10 (Nat.le_of_ble_eq_true rfl) tw_655 rfl ?_
  refine V_iconst (v := (1 : Int32)) eX7_worth_5 rfl ?_
  refine V_iadd eX7_worth_6 ?_
  refine V_sipush (v := (255 : Int32)) eX7_worth_7 rfl ?_
  obtain ⟨q1, hc1, h⟩ := Option.bind_eq_some_iff.mp h
  refine V_callVi (rest := []) eX7_worth_10 (ctX7_bestBy l G A c ((c.1 10) + (1 : Int32)) (255 : Int32) hc1) tc_866 tw_863 tw_8 tw_865 ts_31 0 rfl rfl hdX7_bestBy rfl ⟨Nat.le_of_ble_eq_true rfl, Nat.le_of_ble_eq_true rfl⟩ rfl (Nat.le_of_ble_eq_true rfl) ⟨Nat.zero_le _, Nat.zero_le _⟩ ?_
  refine V_aload_n eX7_worth_13 0 rfl ?_
  refine V_aload_n eX7_worth_14 0 rfl ?_
  refine V_get (v := .int (q1.2.1 10)) eX7_worth_15 inX7 0 rfl rfl 10 (Nat.le_of_ble_eq_true rfl) tw_655 rfl ?_
  refine V_sipush (v := (255 : Int32)) eX7_worth_18 rfl ?_
  obtain ⟨q2, hc2, h⟩ := Option.bind_eq_some_iff.mp h
  refine V_callVi (rest := [.int q1.1]) eX7_worth_21 (ctX7_bestBy l G A q1.2 (q1.2.1 10) (255 : Int32) hc2) tc_866 tw_863 tw_8 tw_865 ts_31 0 rfl rfl hdX7_bestBy rfl ⟨Nat.le_of_ble_eq_true rfl, Nat.le_of_ble_eq_true rfl⟩ rfl (Nat.le_of_ble_eq_true rfl) ⟨Nat.zero_le _, Nat.zero_le _⟩ ?_
  refine V_isub eX7_worth_24 ?_
  obtain rfl := Option.some.inj h
  exact V_ret eX7_worth_25 rfl ⟨rfl, rfl⟩
theorem hdX7_areSets : yX7_areSets.cls ≠ "java/lang/invoke/MethodHandle" ∧ yX7_areSets.cls ≠ "java/lang/invoke/VarHandle" ∧ (parseMethodDescriptor yX7_areSets.desc).map (fun d => d.parameters.length) = some 2 := by decide +kernel
theorem eX7_areSets_0 : Dc cX7_areSets 0 (.iload_n 1) 1 1 := ⟨by decide +kernel, rfl⟩
theorem eX7_areSets_1 : Dc cX7_areSets 1 (.i2l) 1 2 := ⟨by decide +kernel, rfl⟩
theorem eX7_areSets_2 : Dc cX7_areSets 2 (.lconst 0) 1 3 := ⟨by decide +kernel, rfl⟩
theorem eX7_areSets_3 : Dc cX7_areSets 3 (.ldc2_w 183) 3 6 := ⟨by decide +kernel, rfl⟩
theorem eX7_areSets_6 : Dc cX7_areSets 6 (.invokestatic 79) 3 9 := ⟨by decide +kernel, rfl⟩
theorem eX7_areSets_9 : Dc cX7_areSets 9 (.ifCond .eq 38) 3 12 := ⟨by decide +kernel, rfl⟩
theorem eX7_areSets_12 : Dc cX7_areSets 12 (.iload_n 2) 1 13 := ⟨by decide +kernel, rfl⟩
theorem eX7_areSets_13 : Dc cX7_areSets 13 (.i2l) 1 14 := ⟨by decide +kernel, rfl⟩
theorem eX7_areSets_14 : Dc cX7_areSets 14 (.lconst 0) 1 15 := ⟨by decide +kernel, rfl⟩
theorem eX7_areSets_15 : Dc cX7_areSets 15 (.ldc2_w 183) 3 18 := ⟨by decide +kernel, rfl⟩
theorem eX7_areSets_18 : Dc cX7_areSets 18 (.invokestatic 79) 3 21 := ⟨by decide +kernel, rfl⟩
theorem eX7_areSets_21 : Dc cX7_areSets 21 (.ifCond .eq 26) 3 24 := ⟨by decide +kernel, rfl⟩
theorem eX7_areSets_24 : Dc cX7_areSets 24 (.iload_n 1) 1 25 := ⟨by decide +kernel, rfl⟩
theorem eX7_areSets_25 : Dc cX7_areSets 25 (.iload_n 2) 1 26 := ⟨by decide +kernel, rfl⟩
theorem eX7_areSets_26 : Dc cX7_areSets 26 (.ior) 1 27 := ⟨by decide +kernel, rfl⟩
theorem eX7_areSets_27 : Dc cX7_areSets 27 (.aload_n 0) 1 28 := ⟨by decide +kernel, rfl⟩
theorem eX7_areSets_28 : Dc cX7_areSets 28 (.getfield 88) 3 31 := ⟨by decide +kernel, rfl⟩
theorem eX7_areSets_31 : Dc cX7_areSets 31 (.iconst (-1)) 1 32 := ⟨by decide +kernel, rfl⟩
theorem eX7_areSets_32 : Dc cX7_areSets 32 (.ixor) 1 33 := ⟨by decide +kernel, rfl⟩
theorem eX7_areSets_33 : Dc cX7_areSets 33 (.iand) 1 34 := ⟨by decide +kernel, rfl⟩
theorem eX7_areSets_34 : Dc cX7_areSets 34 (.ifCond .ne 13) 3 37 := ⟨by decide +kernel, rfl⟩
theorem eX7_areSets_37 : Dc cX7_areSets 37 (.iload_n 1) 1 38 := ⟨by decide +kernel, rfl⟩
theorem eX7_areSets_38 : Dc cX7_areSets 38 (.iload_n 2) 1 39 := ⟨by decide +kernel, rfl⟩
theorem eX7_areSets_39 : Dc cX7_areSets 39 (.iand) 1 40 := ⟨by decide +kernel, rfl⟩
theorem eX7_areSets_40 : Dc cX7_areSets 40 (.ifCond .ne 7) 3 43 := ⟨by decide +kernel, rfl⟩
theorem eX7_areSets_43 : Dc cX7_areSets 43 (.iconst 1) 1 44 := ⟨by decide +kernel, rfl⟩
theorem eX7_areSets_44 : Dc cX7_areSets 44 (.goto 4) 3 47 := ⟨by decide +kernel, rfl⟩
theorem eX7_areSets_47 : Dc cX7_areSets 47 (.iconst 0) 1 48 := ⟨by decide +kernel, rfl⟩
theorem eX7_areSets_48 : Dc cX7_areSets 48 (.ireturn) 1 49 := ⟨by decide +kernel, rfl⟩
def fX7_areSets (c : SS) (p1 : Int32) (p2 : Int32) : Int32 := if (fX7_in (p1).toInt64 (0 : Int64) (255 : Int64)) = (0 : Int32) then (0 : Int32) else if (fX7_in (p2).toInt64 (0 : Int64) (255 : Int64)) = (0 : Int32) then (0 : Int32) else if ((p1 ||| p2) &&& ((c.1 3) ^^^ (-1 : Int32))) = (0 : Int32) then if (p1 &&& p2) = (0 : Int32) then (1 : Int32) else (0 : Int32) else (0 : Int32)
set_option maxRecDepth 20000 in
theorem ctX7_areSets (l : Launch) (G : tg_G) (A : Nat → Nat) (c : SS) (p1 : Int32) (p2 : Int32) {z : Int32} (h : fX7_areSets c p1 p2 = z) : Mt l G yX7_areSets cX7_areSets 3 (some .boolean) (tg_R 1 25) [.ref (A 0), .int p1, .int p2] (wM G A c) (fun v w1 => v = some (.int z) ∧ w1 = wM G A c) := by
  refine Mt_of2 (own := "TramGodModel") (nm := "areSets") rfl rfl rfl (Nat.le_of_ble_eq_true rfl) (lv := [(0, .ref (A 0)), (1, .int p1), (2, .int p2)]) rfl ?_
  unfold fX7_areSets at h
  refine V_iload_n eX7_areSets_0 1 rfl ?_
  refine V_i2l eX7_areSets_1 ?_
  refine V_lconst (v := (0 : Int64)) eX7_areSets_2 rfl ?_
  refine V_ldc2 eX7_areSets_3 tw_896 ?_
  refine V_callSi (rest := []) eX7_areSets_6 (ctX7_in l G _ (p1).toInt64 (0 : Int64) (255 : Int64) rfl) tc_748 tw_746 tw_8 tw_747 hdX7_in rfl ⟨Nat.le_of_ble_eq_true rfl, Nat.le_of_ble_eq_true rfl⟩ rfl (Nat.le_of_ble_eq_true rfl) ⟨Nat.zero_le _, Nat.zero_le _⟩ ?_
  refine V_if_eq (tgt := 47) eX7_areSets_9 rfl (fun hb1 => ?_) (fun hb1 => ?_)
  · replace h := (if_pos hb1).symm.trans h
    refine V_iconst (v := (0 : Int32)) eX7_areSets_47 rfl ?_
    subst h
    exact V_zret eX7_areSets_48 rfl rfl ⟨rfl, rfl⟩
  · replace h := (if_neg hb1).symm.trans h
    refine V_iload_n eX7_areSets_12 2 rfl ?_
    refine V_i2l eX7_areSets_13 ?_
    refine V_lconst (v := (0 : Int64)) eX7_areSets_14 rfl ?_
    refine V_ldc2 eX7_areSets_15 tw_896 ?_
    refine V_callSi (rest := []) eX7_areSets_18 (ctX7_in l G _ (p2).toInt64 (0 : Int64) (255 : Int64) rfl) tc_748 tw_746 tw_8 tw_747 hdX7_in rfl ⟨Nat.le_of_ble_eq_true rfl, Nat.le_of_ble_eq_true rfl⟩ rfl (Nat.le_of_ble_eq_true rfl) ⟨Nat.zero_le _, Nat.zero_le _⟩ ?_
    refine V_if_eq (tgt := 47) eX7_areSets_21 rfl (fun hb2 => ?_) (fun hb2 => ?_)
    · replace h := (if_pos hb2).symm.trans h
      refine V_iconst (v := (0 : Int32)) eX7_areSets_47 rfl ?_
      subst h
      exact V_zret eX7_areSets_48 rfl rfl ⟨rfl, rfl⟩
    · replace h := (if_neg hb2).symm.trans h
      refine V_iload_n eX7_areSets_24 1 rfl ?_
      refine V_iload_n eX7_areSets_25 2 rfl ?_
      refine V_ior eX7_areSets_26 ?_
      refine V_aload_n eX7_areSets_27 0 rfl ?_
      refine V_get (v := .int (c.1 3)) eX7_areSets_28 inX7 0 rfl rfl 3 (Nat.le_of_ble_eq_true rfl) tw_648 rfl ?_
      refine V_iconst (v := (-1 : Int32)) eX7_areSets_31 rfl ?_
      refine V_ixor eX7_areSets_32 ?_
      refine V_iand eX7_areSets_33 ?_
      refine V_if_ne (tgt := 47) eX7_areSets_34 rfl (fun hb3 => ?_) (fun hb3 => ?_)
      · replace h := (if_neg hb3).symm.trans h
        refine V_iconst (v := (0 : Int32)) eX7_areSets_47 rfl ?_
        subst h
        exact V_zret eX7_areSets_48 rfl rfl ⟨rfl, rfl⟩
      · replace h := (if_pos hb3).symm.trans h
        refine V_iload_n eX7_areSets_37 1 rfl ?_
        refine V_iload_n eX7_areSets_38 2 rfl ?_
        refine V_iand eX7_areSets_39 ?_
        refine V_if_ne (tgt := 47) eX7_areSets_40 rfl (fun hb4 => ?_) (fun hb4 => ?_)
        · replace h := (if_neg hb4).symm.trans h
          refine V_iconst (v := (0 : Int32)) eX7_areSets_47 rfl ?_
          subst h
          exact V_zret eX7_areSets_48 rfl rfl ⟨rfl, rfl⟩
        · replace h := (if_pos hb4).symm.trans h
          refine V_iconst (v := (1 : Int32)) eX7_areSets_43 rfl ?_
          refine V_goto (tgt := 48) eX7_areSets_44 rfl ?_
          subst h
          exact V_zret eX7_areSets_48 rfl rfl ⟨rfl, rfl⟩
theorem bzX7_areSets (c : SS) (p1 : Int32) (p2 : Int32) : narrow .boolean (.int (fX7_areSets c p1 p2)) = .int (fX7_areSets c p1 p2) := by
  unfold fX7_areSets
  repeat' split
  all_goals first | rfl | exact (bzX7_in (p2).toInt64 (0 : Int64) (255 : Int64)) | exact (bzX7_in (p1).toInt64 (0 : Int64) (255 : Int64))
theorem hdX7_fewestFor : yX7_fewestFor.cls ≠ "java/lang/invoke/MethodHandle" ∧ yX7_fewestFor.cls ≠ "java/lang/invoke/VarHandle" ∧ (parseMethodDescriptor yX7_fewestFor.desc).map (fun d => d.parameters.length) = some 2 := by decide +kernel
theorem eX7_fewestFor_0 : Dc cX7_fewestFor 0 (.aload_n 0) 1 1 := ⟨by decide +kernel, rfl⟩
theorem eX7_fewestFor_1 : Dc cX7_fewestFor 1 (.invokevirtual 170) 3 4 := ⟨by decide +kernel, rfl⟩
theorem eX7_fewestFor_4 : Dc cX7_fewestFor 4 (.bipush (-6)) 2 6 := ⟨by decide +kernel, rfl⟩
theorem eX7_fewestFor_6 : Dc cX7_fewestFor 6 (.istore_n 3) 1 7 := ⟨by decide +kernel, rfl⟩
theorem eX7_fewestFor_7 : Dc cX7_fewestFor 7 (.iconst 1) 1 8 := ⟨by decide +kernel, rfl⟩
theorem eX7_fewestFor_8 : Dc cX7_fewestFor 8 (.istore 4) 2 10 := ⟨by decide +kernel, rfl⟩
theorem eX7_fewestFor_10 : Dc cX7_fewestFor 10 (.iload 4) 2 12 := ⟨by decide +kernel, rfl⟩
theorem eX7_fewestFor_12 : Dc cX7_fewestFor 12 (.ifCond .eq 71) 3 15 := ⟨by decide +kernel, rfl⟩
theorem eX7_fewestFor_15 : Dc cX7_fewestFor 15 (.aload_n 0) 1 16 := ⟨by decide +kernel, rfl⟩
theorem eX7_fewestFor_16 : Dc cX7_fewestFor 16 (.invokevirtual 157) 3 19 := ⟨by decide +kernel, rfl⟩
theorem eX7_fewestFor_19 : Dc cX7_fewestFor 19 (.istore 5) 2 21 := ⟨by decide +kernel, rfl⟩
theorem eX7_fewestFor_21 : Dc cX7_fewestFor 21 (.iload_n 1) 1 22 := ⟨by decide +kernel, rfl⟩
theorem eX7_fewestFor_22 : Dc cX7_fewestFor 22 (.iload 5) 2 24 := ⟨by decide +kernel, rfl⟩
theorem eX7_fewestFor_24 : Dc cX7_fewestFor 24 (.iconst (-1)) 1 25 := ⟨by decide +kernel, rfl⟩
theorem eX7_fewestFor_25 : Dc cX7_fewestFor 25 (.ixor) 1 26 := ⟨by decide +kernel, rfl⟩
theorem eX7_fewestFor_26 : Dc cX7_fewestFor 26 (.iand) 1 27 := ⟨by decide +kernel, rfl⟩
theorem eX7_fewestFor_27 : Dc cX7_fewestFor 27 (.ifCond .ne 14) 3 30 := ⟨by decide +kernel, rfl⟩
theorem eX7_fewestFor_30 : Dc cX7_fewestFor 30 (.iload_n 2) 1 31 := ⟨by decide +kernel, rfl⟩
theorem eX7_fewestFor_31 : Dc cX7_fewestFor 31 (.iload 5) 2 33 := ⟨by decide +kernel, rfl⟩
theorem eX7_fewestFor_33 : Dc cX7_fewestFor 33 (.iand) 1 34 := ⟨by decide +kernel, rfl⟩
theorem eX7_fewestFor_34 : Dc cX7_fewestFor 34 (.ifCond .ne 7) 3 37 := ⟨by decide +kernel, rfl⟩
theorem eX7_fewestFor_37 : Dc cX7_fewestFor 37 (.iconst 1) 1 38 := ⟨by decide +kernel, rfl⟩
theorem eX7_fewestFor_38 : Dc cX7_fewestFor 38 (.goto 4) 3 41 := ⟨by decide +kernel, rfl⟩
theorem eX7_fewestFor_41 : Dc cX7_fewestFor 41 (.iconst 0) 1 42 := ⟨by decide +kernel, rfl⟩
theorem eX7_fewestFor_42 : Dc cX7_fewestFor 42 (.istore 6) 2 44 := ⟨by decide +kernel, rfl⟩
theorem eX7_fewestFor_44 : Dc cX7_fewestFor 44 (.iload 6) 2 46 := ⟨by decide +kernel, rfl⟩
theorem eX7_fewestFor_46 : Dc cX7_fewestFor 46 (.ifCond .eq 24) 3 49 := ⟨by decide +kernel, rfl⟩
theorem eX7_fewestFor_49 : Dc cX7_fewestFor 49 (.iload_n 3) 1 50 := ⟨by decide +kernel, rfl⟩
theorem eX7_fewestFor_50 : Dc cX7_fewestFor 50 (.ifCond .lt 11) 3 53 := ⟨by decide +kernel, rfl⟩
theorem eX7_fewestFor_53 : Dc cX7_fewestFor 53 (.aload_n 0) 1 54 := ⟨by decide +kernel, rfl⟩
theorem eX7_fewestFor_54 : Dc cX7_fewestFor 54 (.invokevirtual 167) 3 57 := ⟨by decide +kernel, rfl⟩
theorem eX7_fewestFor_57 : Dc cX7_fewestFor 57 (.iload_n 3) 1 58 := ⟨by decide +kernel, rfl⟩
theorem eX7_fewestFor_58 : Dc cX7_fewestFor 58 (.if_icmp .ge 12) 3 61 := ⟨by decide +kernel, rfl⟩
theorem eX7_fewestFor_61 : Dc cX7_fewestFor 61 (.aload_n 0) 1 62 := ⟨by decide +kernel, rfl⟩
theorem eX7_fewestFor_62 : Dc cX7_fewestFor 62 (.invokevirtual 167) 3 65 := ⟨by decide +kernel, rfl⟩
theorem eX7_fewestFor_65 : Dc cX7_fewestFor 65 (.istore_n 3) 1 66 := ⟨by decide +kernel, rfl⟩
theorem eX7_fewestFor_66 : Dc cX7_fewestFor 66 (.aload_n 0) 1 67 := ⟨by decide +kernel, rfl⟩
theorem eX7_fewestFor_67 : Dc cX7_fewestFor 67 (.invokevirtual 174) 3 70 := ⟨by decide +kernel, rfl⟩
theorem eX7_fewestFor_70 : Dc cX7_fewestFor 70 (.aload_n 0) 1 71 := ⟨by decide +kernel, rfl⟩
theorem eX7_fewestFor_71 : Dc cX7_fewestFor 71 (.aload_n 0) 1 72 := ⟨by decide +kernel, rfl⟩
theorem eX7_fewestFor_72 : Dc cX7_fewestFor 72 (.getfield 73) 3 75 := ⟨by decide +kernel, rfl⟩
theorem eX7_fewestFor_75 : Dc cX7_fewestFor 75 (.invokevirtual 177) 3 78 := ⟨by decide +kernel, rfl⟩
theorem eX7_fewestFor_78 : Dc cX7_fewestFor 78 (.istore 4) 2 80 := ⟨by decide +kernel, rfl⟩
theorem eX7_fewestFor_80 : Dc cX7_fewestFor 80 (.goto (-70)) 3 83 := ⟨by decide +kernel, rfl⟩
theorem eX7_fewestFor_83 : Dc cX7_fewestFor 83 (.iload_n 3) 1 84 := ⟨by decide +kernel, rfl⟩
theorem eX7_fewestFor_84 : Dc cX7_fewestFor 84 (.ireturn) 1 85 := ⟨by decide +kernel, rfl⟩
def fX7_fewestFor_L10  (a1 : Int32) (a2 : Int32) : Nat → Int32 → Int32 → SS → Option (Int32 × SS)
  | 0, _, _, _ => none
  | n + 1, a3, a4, c => if a4 = (0 : Int32) then some (a3, c) else Option.bind (fX7_ridersNow c) (fun q3 => jn (fun (x4 : Int32) => jn (fun (x5 : Int32) (c6 : SS) => Option.bind (fX7_nextHold c6 (c6.1 10)) (fun q7 => fX7_fewestFor_L10 a1 a2 n x5 q7.1 q7.2)) (fun j70 => if x4 = (0 : Int32) then j70 a3 q3.2 else jn (fun (_ : Unit) => Option.bind (fX7_heldIn q3.2) (fun q9 => Option.bind (fX7_keepHold q3.2) (fun q10 => j70 q9 q10))) (fun j61 => if a3 < (0 : Int32) then j61 () else Option.bind (fX7_heldIn q3.2) (fun q12 => if a3 ≤ q12 then j70 a3 q3.2 else j61 ())))) (fun j42 => jn (fun (_ : Unit) => j42 (0 : Int32)) (fun j41 => if (a1 &&& (q3.1 ^^^ (-1 : Int32))) = (0 : Int32) then if (a2 &&& q3.1) = (0 : Int32) then j42 (1 : Int32) else j41 () else j41 ())))
def fX7_fewestFor (c : SS) (p1 : Int32) (p2 : Int32) : Option (Int32 × SS) := Option.bind (fX7_noHold c) (fun q1 => fX7_fewestFor_L10 p1 p2 fu (-6 : Int32) (1 : Int32) q1)
set_option maxRecDepth 20000 in
theorem ctX7_fewestFor_L10 (l : Launch) (G : tg_G) (A : Nat → Nat)  (a1 : Int32) (a2 : Int32) {z : Int32 × SS}  : ∀ (n : Nat) (a3 : Int32) (a4 : Int32) (c : SS), fX7_fewestFor_L10 a1 a2 n a3 a4 c = some z → V l G (tg_Zm G (fun v w1 => v = some (.int z.1) ∧ w1 = wM G A z.2) 0 0) tg_E0 (tg_R 3 68) "TramGodModel" "fewestFor" cX7_fewestFor 7 (some .int) 10 [(0, .ref (A 0)), (1, .int a1), (2, .int a2), (3, .int a3), (4, .int a4)] [] (wM G A c) 0 0 := by
  intro n
  induction n with
  | zero => intro a3 a4 c h; exact absurd h (by simp [fX7_fewestFor_L10])
  | succ n ih =>
    intro a3 a4 c h
    unfold fX7_fewestFor_L10 at h
    refine V_iload eX7_fewestFor_10 4 rfl ?_
    refine V_if_eq (tgt := 83) eX7_fewestFor_12 rfl (fun hb2 => ?_) (fun hb2 => ?_)
    · replace h := (if_pos hb2).symm.trans h
      refine V_iload_n eX7_fewestFor_83 3 rfl ?_
      obtain rfl := Option.some.inj h
      exact V_ret eX7_fewestFor_84 rfl ⟨rfl, rfl⟩
    · replace h := (if_neg hb2).symm.trans h
      refine V_aload_n eX7_fewestFor_15 0 rfl ?_
      obtain ⟨q3, hc3, h⟩ := Option.bind_eq_some_iff.mp h
      refine V_callVi (rest := []) eX7_fewestFor_16 (ctX7_ridersNow l G A c hc3) tc_830 tw_827 tw_8 tw_829 ts_26 0 rfl rfl hdX7_ridersNow rfl ⟨Nat.le_of_ble_eq_true rfl, Nat.le_of_ble_eq_true rfl⟩ rfl (Nat.le_of_ble_eq_true rfl) ⟨Nat.zero_le _, Nat.zero_le _⟩ ?_
      refine V_istore (lv' := [(5, .int q3.1), (0, .ref (A 0)), (1, .int a1), (2, .int a2), (3, .int a3), (4, .int a4)]) eX7_fewestFor_19 (Nat.le_of_ble_eq_true rfl) rfl ?_
      refine V_iload_n eX7_fewestFor_21 2 rfl ?_
      refine V_iload eX7_fewestFor_22 0 rfl ?_
      refine V_iconst (v := (-1 : Int32)) eX7_fewestFor_24 rfl ?_
      refine V_ixor eX7_fewestFor_25 ?_
      refine V_iand eX7_fewestFor_26 ?_
      refine jn_elim h (fun j => ∀ (x4 : Int32), j x4 = some z → V l G (tg_Zm G (fun v w1 => v = some (.int z.1) ∧ w1 = wM G A z.2) 0 0) tg_E0 (tg_R 3 68) "TramGodModel" "fewestFor" cX7_fewestFor 7 (some .int) 42 [(0, .ref (A 0)), (1, .int a1), (2, .int a2), (3, .int a3)] [.int x4] (wM G A q3.2) 0 0) ?_ (fun j42 hj42 h => ?_)
      · intro x4 h
        refine V_istore (lv' := [(6, .int x4), (0, .ref (A 0)), (1, .int a1), (2, .int a2), (3, .int a3)]) eX7_fewestFor_42 (Nat.le_of_ble_eq_true rfl) rfl ?_
        refine V_iload eX7_fewestFor_44 0 rfl ?_
        refine jn_elim h (fun j => ∀ (x5 : Int32) (c6 : SS), j x5 c6 = some z → V l G (tg_Zm G (fun v w1 => v = some (.int z.1) ∧ w1 = wM G A z.2) 0 0) tg_E0 (tg_R 3 68) "TramGodModel" "fewestFor" cX7_fewestFor 7 (some .int) 70 [(0, .ref (A 0)), (1, .int a1), (2, .int a2), (3, .int x5)] [] (wM G A c6) 0 0) ?_ (fun j70 hj70 h => ?_)
        · intro x5 c6 h
          refine V_aload_n eX7_fewestFor_70 0 rfl ?_
          refine V_aload_n eX7_fewestFor_71 0 rfl ?_
          refine V_get (v := .int (c6.1 10)) eX7_fewestFor_72 inX7 0 rfl rfl 10 (Nat.le_of_ble_eq_true rfl) tw_655 rfl ?_
          obtain ⟨q7, hc7, h⟩ := Option.bind_eq_some_iff.mp h
          refine V_callVi (rest := []) eX7_fewestFor_75 (ctX7_nextHold l G A c6 (c6.1 10) hc7) tc_879 tw_876 tw_8 tw_878 ts_34 0 rfl rfl hdX7_nextHold rfl ⟨Nat.le_of_ble_eq_true rfl, Nat.le_of_ble_eq_true rfl⟩ rfl (Nat.le_of_ble_eq_true rfl) ⟨Nat.zero_le _, Nat.zero_le _⟩ ?_
          refine V_istore (lv' := [(4, .int q7.1), (0, .ref (A 0)), (1, .int a1), (2, .int a2), (3, .int x5)]) eX7_fewestFor_78 (Nat.le_of_ble_eq_true rfl) rfl ?_
          refine V_goto (tgt := 10) eX7_fewestFor_80 rfl ?_
          refine V_lv (lv' := [(0, .ref (A 0)), (1, .int a1), (2, .int a2), (3, .int x5), (4, .int q7.1)]) [1, 2, 3, 4, 0] rfl ?_
          exact ih x5 q7.1 q7.2 h
        refine V_if_eq (tgt := 70) eX7_fewestFor_46 rfl (fun hb8 => ?_) (fun hb8 => ?_)
        · replace h := (if_pos hb8).symm.trans h
          refine V_lv (lv' := [(0, .ref (A 0)), (1, .int a1), (2, .int a2), (3, .int a3)]) [1, 2, 3, 4] rfl ?_
          exact hj70 a3 q3.2 h
        · replace h := (if_neg hb8).symm.trans h
          refine V_iload_n eX7_fewestFor_49 4 rfl ?_
          refine jn_elim h (fun j => j () = some z → V l G (tg_Zm G (fun v w1 => v = some (.int z.1) ∧ w1 = wM G A z.2) 0 0) tg_E0 (tg_R 3 68) "TramGodModel" "fewestFor" cX7_fewestFor 7 (some .int) 61 [(0, .ref (A 0)), (1, .int a1), (2, .int a2)] [] (wM G A q3.2) 0 0) ?_ (fun j61 hj61 h => ?_)
          · intro h
            refine V_aload_n eX7_fewestFor_61 0 rfl ?_
            obtain ⟨q9, hc9, h⟩ := Option.bind_eq_some_iff.mp h
            refine V_callVi (rest := []) eX7_fewestFor_62 (ctX7_heldIn l G A q3.2 hc9) tc_883 tw_880 tw_8 tw_882 ts_35 0 rfl rfl hdX7_heldIn rfl ⟨Nat.le_of_ble_eq_true rfl, Nat.le_of_ble_eq_true rfl⟩ rfl (Nat.le_of_ble_eq_true rfl) ⟨Nat.zero_le _, Nat.zero_le _⟩ ?_
            refine V_istore_n (lv' := [(3, .int q9), (0, .ref (A 0)), (1, .int a1), (2, .int a2)]) eX7_fewestFor_65 (Nat.le_of_ble_eq_true rfl) rfl ?_
            refine V_aload_n eX7_fewestFor_66 1 rfl ?_
            obtain ⟨q10, hc10, h⟩ := Option.bind_eq_some_iff.mp h
            refine V_callVv (rest := []) eX7_fewestFor_67 (ctX7_keepHold l G A q3.2 hc10) tc_875 tw_872 tw_8 tw_874 ts_33 0 rfl rfl hdX7_keepHold rfl ⟨Nat.le_of_ble_eq_true rfl, Nat.le_of_ble_eq_true rfl⟩ rfl (Nat.le_of_ble_eq_true rfl) ⟨Nat.zero_le _, Nat.zero_le _⟩ ?_
            refine V_lv (lv' := [(0, .ref (A 0)), (1, .int a1), (2, .int a2), (3, .int q9)]) [1, 2, 3, 0] rfl ?_
            exact hj70 q9 q10 h
          refine V_if_lt (tgt := 61) eX7_fewestFor_50 rfl (fun hb11 => ?_) (fun hb11 => ?_)
          · replace h := (if_pos hb11).symm.trans h
            refine V_lv (lv' := [(0, .ref (A 0)), (1, .int a1), (2, .int a2)]) [1, 2, 3] rfl ?_
            exact hj61 h
          · replace h := (if_neg hb11).symm.trans h
            refine V_aload_n eX7_fewestFor_53 1 rfl ?_
            obtain ⟨q12, hc12, h⟩ := Option.bind_eq_some_iff.mp h
            refine V_callVi (rest := []) eX7_fewestFor_54 (ctX7_heldIn l G A q3.2 hc12) tc_883 tw_880 tw_8 tw_882 ts_35 0 rfl rfl hdX7_heldIn rfl ⟨Nat.le_of_ble_eq_true rfl, Nat.le_of_ble_eq_true rfl⟩ rfl (Nat.le_of_ble_eq_true rfl) ⟨Nat.zero_le _, Nat.zero_le _⟩ ?_
            refine V_iload_n eX7_fewestFor_57 4 rfl ?_
            refine V_icmp_ge (tgt := 70) eX7_fewestFor_58 rfl (fun hb13 => ?_) (fun hb13 => ?_)
            · replace h := (if_pos hb13).symm.trans h
              refine V_lv (lv' := [(0, .ref (A 0)), (1, .int a1), (2, .int a2), (3, .int a3)]) [1, 2, 3, 4] rfl ?_
              exact hj70 a3 q3.2 h
            · replace h := (if_neg hb13).symm.trans h
              refine V_lv (lv' := [(0, .ref (A 0)), (1, .int a1), (2, .int a2)]) [1, 2, 3] rfl ?_
              exact hj61 h
      refine jn_elim h (fun j => j () = some z → V l G (tg_Zm G (fun v w1 => v = some (.int z.1) ∧ w1 = wM G A z.2) 0 0) tg_E0 (tg_R 3 68) "TramGodModel" "fewestFor" cX7_fewestFor 7 (some .int) 41 [(0, .ref (A 0)), (1, .int a1), (2, .int a2), (3, .int a3)] [] (wM G A q3.2) 0 0) ?_ (fun j41 hj41 h => ?_)
      · intro h
        refine V_iconst (v := (0 : Int32)) eX7_fewestFor_41 rfl ?_
        exact hj42 (0 : Int32) h
      refine V_if_ne (tgt := 41) eX7_fewestFor_27 rfl (fun hb14 => ?_) (fun hb14 => ?_)
      · replace h := (if_neg hb14).symm.trans h
        refine V_lv (lv' := [(0, .ref (A 0)), (1, .int a1), (2, .int a2), (3, .int a3)]) [1, 2, 3, 4] rfl ?_
        exact hj41 h
      · replace h := (if_pos hb14).symm.trans h
        refine V_iload_n eX7_fewestFor_30 3 rfl ?_
        refine V_iload eX7_fewestFor_31 0 rfl ?_
        refine V_iand eX7_fewestFor_33 ?_
        refine V_if_ne (tgt := 41) eX7_fewestFor_34 rfl (fun hb15 => ?_) (fun hb15 => ?_)
        · replace h := (if_neg hb15).symm.trans h
          refine V_lv (lv' := [(0, .ref (A 0)), (1, .int a1), (2, .int a2), (3, .int a3)]) [1, 2, 3, 4] rfl ?_
          exact hj41 h
        · replace h := (if_pos hb15).symm.trans h
          refine V_iconst (v := (1 : Int32)) eX7_fewestFor_37 rfl ?_
          refine V_goto (tgt := 42) eX7_fewestFor_38 rfl ?_
          refine V_lv (lv' := [(0, .ref (A 0)), (1, .int a1), (2, .int a2), (3, .int a3)]) [1, 2, 3, 4] rfl ?_
          exact hj42 (1 : Int32) h
set_option maxRecDepth 20000 in
theorem ctX7_fewestFor (l : Launch) (G : tg_G) (A : Nat → Nat) (c : SS) (p1 : Int32) (p2 : Int32) {z : Int32 × SS} (h : fX7_fewestFor c p1 p2 = some z) : Mt l G yX7_fewestFor cX7_fewestFor 7 (some .int) (tg_R 3 68) [.ref (A 0), .int p1, .int p2] (wM G A c) (fun v w1 => v = some (.int z.1) ∧ w1 = wM G A z.2) := by
  refine Mt_of2 (own := "TramGodModel") (nm := "fewestFor") rfl rfl rfl (Nat.le_of_ble_eq_true rfl) (lv := [(0, .ref (A 0)), (1, .int p1), (2, .int p2)]) rfl ?_
  unfold fX7_fewestFor at h
  refine V_aload_n eX7_fewestFor_0 0 rfl ?_
  obtain ⟨q1, hc1, h⟩ := Option.bind_eq_some_iff.mp h
  refine V_callVv (rest := []) eX7_fewestFor_1 (ctX7_noHold l G A c hc1) tc_870 tw_867 tw_8 tw_869 ts_32 0 rfl rfl hdX7_noHold rfl ⟨Nat.le_of_ble_eq_true rfl, Nat.le_of_ble_eq_true rfl⟩ rfl (Nat.le_of_ble_eq_true rfl) ⟨Nat.zero_le _, Nat.zero_le _⟩ ?_
  refine V_bipush (v := (-6 : Int32)) eX7_fewestFor_4 rfl ?_
  refine V_istore_n (lv' := [(3, .int (-6 : Int32)), (0, .ref (A 0)), (1, .int p1), (2, .int p2)]) eX7_fewestFor_6 (Nat.le_of_ble_eq_true rfl) rfl ?_
  refine V_iconst (v := (1 : Int32)) eX7_fewestFor_7 rfl ?_
  refine V_istore (lv' := [(4, .int (1 : Int32)), (3, .int (-6 : Int32)), (0, .ref (A 0)), (1, .int p1), (2, .int p2)]) eX7_fewestFor_8 (Nat.le_of_ble_eq_true rfl) rfl ?_
  refine V_lv (lv' := [(0, .ref (A 0)), (1, .int p1), (2, .int p2), (3, .int (-6 : Int32)), (4, .int (1 : Int32))]) [2, 3, 4, 1, 0] rfl ?_
  refine ctX7_fewestFor_L10 l G A p1 p2 fu (-6 : Int32) (1 : Int32) q1 h
theorem hdX7_meant : yX7_meant.cls ≠ "java/lang/invoke/MethodHandle" ∧ yX7_meant.cls ≠ "java/lang/invoke/VarHandle" ∧ (parseMethodDescriptor yX7_meant.desc).map (fun d => d.parameters.length) = some 3 := by decide +kernel
theorem eX7_meant_0 : Dc cX7_meant 0 (.iload_n 3) 1 1 := ⟨by decide +kernel, rfl⟩
theorem eX7_meant_1 : Dc cX7_meant 1 (.iconst (-1)) 1 2 := ⟨by decide +kernel, rfl⟩
theorem eX7_meant_2 : Dc cX7_meant 2 (.if_icmp .eq 13) 3 5 := ⟨by decide +kernel, rfl⟩
theorem eX7_meant_5 : Dc cX7_meant 5 (.aload_n 0) 1 6 := ⟨by decide +kernel, rfl⟩
theorem eX7_meant_6 : Dc cX7_meant 6 (.iload_n 3) 1 7 := ⟨by decide +kernel, rfl⟩
theorem eX7_meant_7 : Dc cX7_meant 7 (.invokevirtual 109) 3 10 := ⟨by decide +kernel, rfl⟩
theorem eX7_meant_10 : Dc cX7_meant 10 (.ifCond .ne 5) 3 13 := ⟨by decide +kernel, rfl⟩
theorem eX7_meant_13 : Dc cX7_meant 13 (.iconst (-1)) 1 14 := ⟨by decide +kernel, rfl⟩
theorem eX7_meant_14 : Dc cX7_meant 14 (.ireturn) 1 15 := ⟨by decide +kernel, rfl⟩
theorem eX7_meant_15 : Dc cX7_meant 15 (.aload_n 0) 1 16 := ⟨by decide +kernel, rfl⟩
theorem eX7_meant_16 : Dc cX7_meant 16 (.iload_n 1) 1 17 := ⟨by decide +kernel, rfl⟩
theorem eX7_meant_17 : Dc cX7_meant 17 (.iload_n 2) 1 18 := ⟨by decide +kernel, rfl⟩
theorem eX7_meant_18 : Dc cX7_meant 18 (.invokevirtual 185) 3 21 := ⟨by decide +kernel, rfl⟩
theorem eX7_meant_21 : Dc cX7_meant 21 (.ifCond .ne 6) 3 24 := ⟨by decide +kernel, rfl⟩
theorem eX7_meant_24 : Dc cX7_meant 24 (.bipush (-2)) 2 26 := ⟨by decide +kernel, rfl⟩
theorem eX7_meant_26 : Dc cX7_meant 26 (.ireturn) 1 27 := ⟨by decide +kernel, rfl⟩
theorem eX7_meant_27 : Dc cX7_meant 27 (.aload_n 0) 1 28 := ⟨by decide +kernel, rfl⟩
theorem eX7_meant_28 : Dc cX7_meant 28 (.iload_n 1) 1 29 := ⟨by decide +kernel, rfl⟩
theorem eX7_meant_29 : Dc cX7_meant 29 (.iload_n 2) 1 30 := ⟨by decide +kernel, rfl⟩
theorem eX7_meant_30 : Dc cX7_meant 30 (.invokevirtual 188) 3 33 := ⟨by decide +kernel, rfl⟩
theorem eX7_meant_33 : Dc cX7_meant 33 (.istore 4) 2 35 := ⟨by decide +kernel, rfl⟩
theorem eX7_meant_35 : Dc cX7_meant 35 (.iload 4) 2 37 := ⟨by decide +kernel, rfl⟩
theorem eX7_meant_37 : Dc cX7_meant 37 (.ifCond .lt 8) 3 40 := ⟨by decide +kernel, rfl⟩
theorem eX7_meant_40 : Dc cX7_meant 40 (.iload_n 3) 1 41 := ⟨by decide +kernel, rfl⟩
theorem eX7_meant_41 : Dc cX7_meant 41 (.iconst (-1)) 1 42 := ⟨by decide +kernel, rfl⟩
theorem eX7_meant_42 : Dc cX7_meant 42 (.if_icmp .ne 8) 3 45 := ⟨by decide +kernel, rfl⟩
theorem eX7_meant_45 : Dc cX7_meant 45 (.iload 4) 2 47 := ⟨by decide +kernel, rfl⟩
theorem eX7_meant_47 : Dc cX7_meant 47 (.goto 9) 3 50 := ⟨by decide +kernel, rfl⟩
theorem eX7_meant_50 : Dc cX7_meant 50 (.aload_n 0) 1 51 := ⟨by decide +kernel, rfl⟩
theorem eX7_meant_51 : Dc cX7_meant 51 (.getfield 46) 3 54 := ⟨by decide +kernel, rfl⟩
theorem eX7_meant_54 : Dc cX7_meant 54 (.iload_n 3) 1 55 := ⟨by decide +kernel, rfl⟩
theorem eX7_meant_55 : Dc cX7_meant 55 (.iaload) 1 56 := ⟨by decide +kernel, rfl⟩
theorem eX7_meant_56 : Dc cX7_meant 56 (.ireturn) 1 57 := ⟨by decide +kernel, rfl⟩
def fX7_meant (c : SS) (p1 : Int32) (p2 : Int32) (p3 : Int32) : Option (Int32 × SS) := jn (fun (_ : Unit) => if (fX7_areSets c p1 p2) = (0 : Int32) then some ((-2 : Int32), c) else Option.bind (fX7_fewestFor c p1 p2) (fun q2 => if q2.1 < (0 : Int32) then some (q2.1, q2.2) else if p3 = (-1 : Int32) then some (q2.1, q2.2) else ald 6 (q2.2.2 21) p3 (fun v5 => some (v5, q2.2)))) (fun j15 => if p3 = (-1 : Int32) then j15 () else if (fX7_isStop c p3) = (0 : Int32) then some ((-1 : Int32), c) else j15 ())
set_option maxRecDepth 20000 in
theorem ctX7_meant (l : Launch) (G : tg_G) (A : Nat → Nat) (c : SS) (p1 : Int32) (p2 : Int32) (p3 : Int32) {z : Int32 × SS} (h : fX7_meant c p1 p2 p3 = some z) : Mt l G yX7_meant cX7_meant 5 (some .int) (tg_R 4 94) [.ref (A 0), .int p1, .int p2, .int p3] (wM G A c) (fun v w1 => v = some (.int z.1) ∧ w1 = wM G A z.2) := by
  refine Mt_of2 (own := "TramGodModel") (nm := "meant") rfl rfl rfl (Nat.le_of_ble_eq_true rfl) (lv := [(0, .ref (A 0)), (1, .int p1), (2, .int p2), (3, .int p3)]) rfl ?_
  unfold fX7_meant at h
  refine V_iload_n eX7_meant_0 3 rfl ?_
  refine V_iconst (v := (-1 : Int32)) eX7_meant_1 rfl ?_
  refine jn_elim h (fun j => j () = some z → V l G (tg_Zm G (fun v w1 => v = some (.int z.1) ∧ w1 = wM G A z.2) 0 0) tg_E0 (tg_R 4 94) "TramGodModel" "meant" cX7_meant 5 (some .int) 15 [(0, .ref (A 0)), (1, .int p1), (2, .int p2), (3, .int p3)] [] (wM G A c) 0 0) ?_ (fun j15 hj15 h => ?_)
  · intro h
    refine V_aload_n eX7_meant_15 0 rfl ?_
    refine V_iload_n eX7_meant_16 1 rfl ?_
    refine V_iload_n eX7_meant_17 2 rfl ?_
    refine V_callVi (rest := []) eX7_meant_18 (ctX7_areSets l G A c p1 p2 rfl) tc_895 tw_892 tw_8 tw_894 ts_36 0 rfl rfl hdX7_areSets rfl ⟨Nat.le_of_ble_eq_true rfl, Nat.le_of_ble_eq_true rfl⟩ rfl (Nat.le_of_ble_eq_true rfl) ⟨Nat.zero_le _, Nat.zero_le _⟩ ?_
    refine V_if_ne (tgt := 27) eX7_meant_21 rfl (fun hb1 => ?_) (fun hb1 => ?_)
    · replace h := (if_neg hb1).symm.trans h
      refine V_aload_n eX7_meant_27 0 rfl ?_
      refine V_iload_n eX7_meant_28 1 rfl ?_
      refine V_iload_n eX7_meant_29 2 rfl ?_
      obtain ⟨q2, hc2, h⟩ := Option.bind_eq_some_iff.mp h
      refine V_callVi (rest := []) eX7_meant_30 (ctX7_fewestFor l G A c p1 p2 hc2) tc_900 tw_897 tw_8 tw_899 ts_37 0 rfl rfl hdX7_fewestFor rfl ⟨Nat.le_of_ble_eq_true rfl, Nat.le_of_ble_eq_true rfl⟩ rfl (Nat.le_of_ble_eq_true rfl) ⟨Nat.zero_le _, Nat.zero_le _⟩ ?_
      refine V_istore (lv' := [(4, .int q2.1), (0, .ref (A 0)), (1, .int p1), (2, .int p2), (3, .int p3)]) eX7_meant_33 (Nat.le_of_ble_eq_true rfl) rfl ?_
      refine V_iload eX7_meant_35 0 rfl ?_
      refine V_if_lt (tgt := 45) eX7_meant_37 rfl (fun hb3 => ?_) (fun hb3 => ?_)
      · replace h := (if_pos hb3).symm.trans h
        refine V_iload eX7_meant_45 0 rfl ?_
        refine V_goto (tgt := 56) eX7_meant_47 rfl ?_
        obtain rfl := Option.some.inj h
        exact V_ret eX7_meant_56 rfl ⟨rfl, rfl⟩
      · replace h := (if_neg hb3).symm.trans h
        refine V_iload_n eX7_meant_40 4 rfl ?_
        refine V_iconst (v := (-1 : Int32)) eX7_meant_41 rfl ?_
        refine V_icmp_ne (tgt := 50) eX7_meant_42 rfl (fun hb4 => ?_) (fun hb4 => ?_)
        · replace h := (if_neg hb4).symm.trans h
          refine V_aload_n eX7_meant_50 1 rfl ?_
          refine V_get (v := .ref (A 13)) eX7_meant_51 inX7 0 rfl rfl 21 (Nat.le_of_ble_eq_true rfl) tw_666 rfl ?_
          refine V_iload_n eX7_meant_54 4 rfl ?_
          obtain ⟨v5, hi5, ev5, h⟩ := ald_some h
          refine V_ialdv eX7_meant_55 13 rfl hi5 ev5 ?_
          obtain rfl := Option.some.inj h
          exact V_ret eX7_meant_56 rfl ⟨rfl, rfl⟩
        · replace h := (if_pos hb4).symm.trans h
          refine V_iload eX7_meant_45 0 rfl ?_
          refine V_goto (tgt := 56) eX7_meant_47 rfl ?_
          obtain rfl := Option.some.inj h
          exact V_ret eX7_meant_56 rfl ⟨rfl, rfl⟩
    · replace h := (if_pos hb1).symm.trans h
      refine V_bipush (v := (-2 : Int32)) eX7_meant_24 rfl ?_
      obtain rfl := Option.some.inj h
      exact V_ret eX7_meant_26 rfl ⟨rfl, rfl⟩
  refine V_icmp_eq (tgt := 15) eX7_meant_2 rfl (fun hb6 => ?_) (fun hb6 => ?_)
  · replace h := (if_pos hb6).symm.trans h
    exact hj15 h
  · replace h := (if_neg hb6).symm.trans h
    refine V_aload_n eX7_meant_5 0 rfl ?_
    refine V_iload_n eX7_meant_6 3 rfl ?_
    refine V_callVi (rest := []) eX7_meant_7 (ctX7_isStop l G A c p3 rfl) tc_774 tw_771 tw_8 tw_773 ts_21 0 rfl rfl hdX7_isStop rfl ⟨Nat.le_of_ble_eq_true rfl, Nat.le_of_ble_eq_true rfl⟩ rfl (Nat.le_of_ble_eq_true rfl) ⟨Nat.zero_le _, Nat.zero_le _⟩ ?_
    refine V_if_ne (tgt := 15) eX7_meant_10 rfl (fun hb7 => ?_) (fun hb7 => ?_)
    · replace h := (if_neg hb7).symm.trans h
      exact hj15 h
    · replace h := (if_pos hb7).symm.trans h
      refine V_iconst (v := (-1 : Int32)) eX7_meant_13 rfl ?_
      obtain rfl := Option.some.inj h
      exact V_ret eX7_meant_14 rfl ⟨rfl, rfl⟩
theorem hdX7_bars : yX7_bars.cls ≠ "java/lang/invoke/MethodHandle" ∧ yX7_bars.cls ≠ "java/lang/invoke/VarHandle" ∧ (parseMethodDescriptor yX7_bars.desc).map (fun d => d.parameters.length) = some 2 := by decide +kernel
theorem eX7_bars_0 : Dc cX7_bars 0 (.aload_n 0) 1 1 := ⟨by decide +kernel, rfl⟩
theorem eX7_bars_1 : Dc cX7_bars 1 (.iload_n 1) 1 2 := ⟨by decide +kernel, rfl⟩
theorem eX7_bars_2 : Dc cX7_bars 2 (.iload_n 2) 1 3 := ⟨by decide +kernel, rfl⟩
theorem eX7_bars_3 : Dc cX7_bars 3 (.invokevirtual 185) 3 6 := ⟨by decide +kernel, rfl⟩
theorem eX7_bars_6 : Dc cX7_bars 6 (.ifCond .ne 6) 3 9 := ⟨by decide +kernel, rfl⟩
theorem eX7_bars_9 : Dc cX7_bars 9 (.bipush (-2)) 2 11 := ⟨by decide +kernel, rfl⟩
theorem eX7_bars_11 : Dc cX7_bars 11 (.ireturn) 1 12 := ⟨by decide +kernel, rfl⟩
theorem eX7_bars_12 : Dc cX7_bars 12 (.aload_n 0) 1 13 := ⟨by decide +kernel, rfl⟩
theorem eX7_bars_13 : Dc cX7_bars 13 (.iload_n 1) 1 14 := ⟨by decide +kernel, rfl⟩
theorem eX7_bars_14 : Dc cX7_bars 14 (.iload_n 2) 1 15 := ⟨by decide +kernel, rfl⟩
theorem eX7_bars_15 : Dc cX7_bars 15 (.invokevirtual 188) 3 18 := ⟨by decide +kernel, rfl⟩
theorem eX7_bars_18 : Dc cX7_bars 18 (.ifCond .lt 6) 3 21 := ⟨by decide +kernel, rfl⟩
theorem eX7_bars_21 : Dc cX7_bars 21 (.bipush (-6)) 2 23 := ⟨by decide +kernel, rfl⟩
theorem eX7_bars_23 : Dc cX7_bars 23 (.ireturn) 1 24 := ⟨by decide +kernel, rfl⟩
theorem eX7_bars_24 : Dc cX7_bars 24 (.iconst 0) 1 25 := ⟨by decide +kernel, rfl⟩
theorem eX7_bars_25 : Dc cX7_bars 25 (.istore_n 3) 1 26 := ⟨by decide +kernel, rfl⟩
theorem eX7_bars_26 : Dc cX7_bars 26 (.iload_n 3) 1 27 := ⟨by decide +kernel, rfl⟩
theorem eX7_bars_27 : Dc cX7_bars 27 (.bipush 8) 2 29 := ⟨by decide +kernel, rfl⟩
theorem eX7_bars_29 : Dc cX7_bars 29 (.if_icmp .ge 55) 3 32 := ⟨by decide +kernel, rfl⟩
theorem eX7_bars_32 : Dc cX7_bars 32 (.iload_n 1) 1 33 := ⟨by decide +kernel, rfl⟩
theorem eX7_bars_33 : Dc cX7_bars 33 (.iload_n 2) 1 34 := ⟨by decide +kernel, rfl⟩
theorem eX7_bars_34 : Dc cX7_bars 34 (.ior) 1 35 := ⟨by decide +kernel, rfl⟩
theorem eX7_bars_35 : Dc cX7_bars 35 (.iload_n 3) 1 36 := ⟨by decide +kernel, rfl⟩
theorem eX7_bars_36 : Dc cX7_bars 36 (.ishr) 1 37 := ⟨by decide +kernel, rfl⟩
theorem eX7_bars_37 : Dc cX7_bars 37 (.iconst 1) 1 38 := ⟨by decide +kernel, rfl⟩
theorem eX7_bars_38 : Dc cX7_bars 38 (.iand) 1 39 := ⟨by decide +kernel, rfl⟩
theorem eX7_bars_39 : Dc cX7_bars 39 (.iconst 1) 1 40 := ⟨by decide +kernel, rfl⟩
theorem eX7_bars_40 : Dc cX7_bars 40 (.if_icmp .ne 7) 3 43 := ⟨by decide +kernel, rfl⟩
theorem eX7_bars_43 : Dc cX7_bars 43 (.iconst 1) 1 44 := ⟨by decide +kernel, rfl⟩
theorem eX7_bars_44 : Dc cX7_bars 44 (.goto 4) 3 47 := ⟨by decide +kernel, rfl⟩
theorem eX7_bars_47 : Dc cX7_bars 47 (.iconst 0) 1 48 := ⟨by decide +kernel, rfl⟩
theorem eX7_bars_48 : Dc cX7_bars 48 (.istore 4) 2 50 := ⟨by decide +kernel, rfl⟩
theorem eX7_bars_50 : Dc cX7_bars 50 (.iload 4) 2 52 := ⟨by decide +kernel, rfl⟩
theorem eX7_bars_52 : Dc cX7_bars 52 (.ifCond .eq 26) 3 55 := ⟨by decide +kernel, rfl⟩
theorem eX7_bars_55 : Dc cX7_bars 55 (.aload_n 0) 1 56 := ⟨by decide +kernel, rfl⟩
theorem eX7_bars_56 : Dc cX7_bars 56 (.iload_n 1) 1 57 := ⟨by decide +kernel, rfl⟩
theorem eX7_bars_57 : Dc cX7_bars 57 (.iconst 1) 1 58 := ⟨by decide +kernel, rfl⟩
theorem eX7_bars_58 : Dc cX7_bars 58 (.iload_n 3) 1 59 := ⟨by decide +kernel, rfl⟩
theorem eX7_bars_59 : Dc cX7_bars 59 (.ishl) 1 60 := ⟨by decide +kernel, rfl⟩
theorem eX7_bars_60 : Dc cX7_bars 60 (.iconst (-1)) 1 61 := ⟨by decide +kernel, rfl⟩
theorem eX7_bars_61 : Dc cX7_bars 61 (.ixor) 1 62 := ⟨by decide +kernel, rfl⟩
theorem eX7_bars_62 : Dc cX7_bars 62 (.iand) 1 63 := ⟨by decide +kernel, rfl⟩
theorem eX7_bars_63 : Dc cX7_bars 63 (.iload_n 2) 1 64 := ⟨by decide +kernel, rfl⟩
theorem eX7_bars_64 : Dc cX7_bars 64 (.iconst 1) 1 65 := ⟨by decide +kernel, rfl⟩
theorem eX7_bars_65 : Dc cX7_bars 65 (.iload_n 3) 1 66 := ⟨by decide +kernel, rfl⟩
theorem eX7_bars_66 : Dc cX7_bars 66 (.ishl) 1 67 := ⟨by decide +kernel, rfl⟩
theorem eX7_bars_67 : Dc cX7_bars 67 (.iconst (-1)) 1 68 := ⟨by decide +kernel, rfl⟩
theorem eX7_bars_68 : Dc cX7_bars 68 (.ixor) 1 69 := ⟨by decide +kernel, rfl⟩
theorem eX7_bars_69 : Dc cX7_bars 69 (.iand) 1 70 := ⟨by decide +kernel, rfl⟩
theorem eX7_bars_70 : Dc cX7_bars 70 (.invokevirtual 188) 3 73 := ⟨by decide +kernel, rfl⟩
theorem eX7_bars_73 : Dc cX7_bars 73 (.ifCond .lt 5) 3 76 := ⟨by decide +kernel, rfl⟩
theorem eX7_bars_76 : Dc cX7_bars 76 (.iload_n 3) 1 77 := ⟨by decide +kernel, rfl⟩
theorem eX7_bars_77 : Dc cX7_bars 77 (.ireturn) 1 78 := ⟨by decide +kernel, rfl⟩
theorem eX7_bars_78 : Dc cX7_bars 78 (.iinc 3 1) 3 81 := ⟨by decide +kernel, rfl⟩
theorem eX7_bars_81 : Dc cX7_bars 81 (.goto (-55)) 3 84 := ⟨by decide +kernel, rfl⟩
theorem eX7_bars_84 : Dc cX7_bars 84 (.bipush (-6)) 2 86 := ⟨by decide +kernel, rfl⟩
theorem eX7_bars_86 : Dc cX7_bars 86 (.ireturn) 1 87 := ⟨by decide +kernel, rfl⟩
def fX7_bars_L26  (a1 : Int32) (a2 : Int32) : Nat → Int32 → SS → Option (Int32 × SS)
  | 0, _, _ => none
  | n + 1, a3, c => if (8 : Int32) ≤ a3 then some ((-6 : Int32), c) else jn (fun (x5 : Int32) => jn (fun (c6 : SS) => fX7_bars_L26 a1 a2 n (a3 + (1 : Int32)) c6) (fun j78 => if x5 = (0 : Int32) then j78 c else Option.bind (fX7_fewestFor c (a1 &&& (((1 : Int32) <<< (a3 &&& 31)) ^^^ (-1 : Int32))) (a2 &&& (((1 : Int32) <<< (a3 &&& 31)) ^^^ (-1 : Int32)))) (fun q8 => if q8.1 < (0 : Int32) then j78 q8.2 else some (a3, q8.2)))) (fun j48 => if (((a1 ||| a2) >>> (a3 &&& 31)) &&& (1 : Int32)) = (1 : Int32) then j48 (1 : Int32) else j48 (0 : Int32))
def fX7_bars (c : SS) (p1 : Int32) (p2 : Int32) : Option (Int32 × SS) := if (fX7_areSets c p1 p2) = (0 : Int32) then some ((-2 : Int32), c) else Option.bind (fX7_fewestFor c p1 p2) (fun q2 => if q2.1 < (0 : Int32) then fX7_bars_L26 p1 p2 fu (0 : Int32) q2.2 else some ((-6 : Int32), q2.2))
set_option maxRecDepth 20000 in
theorem ctX7_bars_L26 (l : Launch) (G : tg_G) (A : Nat → Nat)  (a1 : Int32) (a2 : Int32) {z : Int32 × SS}  : ∀ (n : Nat) (a3 : Int32) (c : SS), fX7_bars_L26 a1 a2 n a3 c = some z → V l G (tg_Zm G (fun v w1 => v = some (.int z.1) ∧ w1 = wM G A z.2) 0 0) tg_E0 (tg_R 4 94) "TramGodModel" "bars" cX7_bars 5 (some .int) 26 [(0, .ref (A 0)), (1, .int a1), (2, .int a2), (3, .int a3)] [] (wM G A c) 0 0 := by
  intro n
  induction n with
  | zero => intro a3 c h; exact absurd h (by simp [fX7_bars_L26])
  | succ n ih =>
    intro a3 c h
    unfold fX7_bars_L26 at h
    refine V_iload_n eX7_bars_26 3 rfl ?_
    refine V_bipush (v := (8 : Int32)) eX7_bars_27 rfl ?_
    refine V_icmp_ge (tgt := 84) eX7_bars_29 rfl (fun hb4 => ?_) (fun hb4 => ?_)
    · replace h := (if_pos hb4).symm.trans h
      refine V_bipush (v := (-6 : Int32)) eX7_bars_84 rfl ?_
      obtain rfl := Option.some.inj h
      exact V_ret eX7_bars_86 rfl ⟨rfl, rfl⟩
    · replace h := (if_neg hb4).symm.trans h
      refine V_iload_n eX7_bars_32 1 rfl ?_
      refine V_iload_n eX7_bars_33 2 rfl ?_
      refine V_ior eX7_bars_34 ?_
      refine V_iload_n eX7_bars_35 3 rfl ?_
      refine V_ishr eX7_bars_36 ?_
      refine V_iconst (v := (1 : Int32)) eX7_bars_37 rfl ?_
      refine V_iand eX7_bars_38 ?_
      refine V_iconst (v := (1 : Int32)) eX7_bars_39 rfl ?_
      refine jn_elim h (fun j => ∀ (x5 : Int32), j x5 = some z → V l G (tg_Zm G (fun v w1 => v = some (.int z.1) ∧ w1 = wM G A z.2) 0 0) tg_E0 (tg_R 4 94) "TramGodModel" "bars" cX7_bars 5 (some .int) 48 [(0, .ref (A 0)), (1, .int a1), (2, .int a2), (3, .int a3)] [.int x5] (wM G A c) 0 0) ?_ (fun j48 hj48 h => ?_)
      · intro x5 h
        refine V_istore (lv' := [(4, .int x5), (0, .ref (A 0)), (1, .int a1), (2, .int a2), (3, .int a3)]) eX7_bars_48 (Nat.le_of_ble_eq_true rfl) rfl ?_
        refine V_iload eX7_bars_50 0 rfl ?_
        refine jn_elim h (fun j => ∀ (c6 : SS), j c6 = some z → V l G (tg_Zm G (fun v w1 => v = some (.int z.1) ∧ w1 = wM G A z.2) 0 0) tg_E0 (tg_R 4 94) "TramGodModel" "bars" cX7_bars 5 (some .int) 78 [(0, .ref (A 0)), (1, .int a1), (2, .int a2), (3, .int a3)] [] (wM G A c6) 0 0) ?_ (fun j78 hj78 h => ?_)
        · intro c6 h
          refine V_iinc (v := (a3 + (1 : Int32))) (lv' := [(3, .int (a3 + (1 : Int32))), (0, .ref (A 0)), (1, .int a1), (2, .int a2)]) eX7_bars_78 3 rfl rfl (Nat.le_of_ble_eq_true rfl) rfl ?_
          refine V_goto (tgt := 26) eX7_bars_81 rfl ?_
          refine V_lv (lv' := [(0, .ref (A 0)), (1, .int a1), (2, .int a2), (3, .int (a3 + (1 : Int32)))]) [1, 2, 3, 0] rfl ?_
          exact ih (a3 + (1 : Int32)) c6 h
        refine V_if_eq (tgt := 78) eX7_bars_52 rfl (fun hb7 => ?_) (fun hb7 => ?_)
        · replace h := (if_pos hb7).symm.trans h
          refine V_lv (lv' := [(0, .ref (A 0)), (1, .int a1), (2, .int a2), (3, .int a3)]) [1, 2, 3, 4] rfl ?_
          exact hj78 c h
        · replace h := (if_neg hb7).symm.trans h
          refine V_aload_n eX7_bars_55 1 rfl ?_
          refine V_iload_n eX7_bars_56 2 rfl ?_
          refine V_iconst (v := (1 : Int32)) eX7_bars_57 rfl ?_
          refine V_iload_n eX7_bars_58 4 rfl ?_
          refine V_ishl eX7_bars_59 ?_
          refine V_iconst (v := (-1 : Int32)) eX7_bars_60 rfl ?_
          refine V_ixor eX7_bars_61 ?_
          refine V_iand eX7_bars_62 ?_
          refine V_iload_n eX7_bars_63 3 rfl ?_
          refine V_iconst (v := (1 : Int32)) eX7_bars_64 rfl ?_
          refine V_iload_n eX7_bars_65 4 rfl ?_
          refine V_ishl eX7_bars_66 ?_
          refine V_iconst (v := (-1 : Int32)) eX7_bars_67 rfl ?_
          refine V_ixor eX7_bars_68 ?_
          refine V_iand eX7_bars_69 ?_
          obtain ⟨q8, hc8, h⟩ := Option.bind_eq_some_iff.mp h
          refine V_callVi (rest := []) eX7_bars_70 (ctX7_fewestFor l G A c (a1 &&& (((1 : Int32) <<< (a3 &&& 31)) ^^^ (-1 : Int32))) (a2 &&& (((1 : Int32) <<< (a3 &&& 31)) ^^^ (-1 : Int32))) hc8) tc_900 tw_897 tw_8 tw_899 ts_37 0 rfl rfl hdX7_fewestFor rfl ⟨Nat.le_of_ble_eq_true rfl, Nat.le_of_ble_eq_true rfl⟩ rfl (Nat.le_of_ble_eq_true rfl) ⟨Nat.zero_le _, Nat.zero_le _⟩ ?_
          refine V_if_lt (tgt := 78) eX7_bars_73 rfl (fun hb9 => ?_) (fun hb9 => ?_)
          · replace h := (if_pos hb9).symm.trans h
            refine V_lv (lv' := [(0, .ref (A 0)), (1, .int a1), (2, .int a2), (3, .int a3)]) [1, 2, 3, 4] rfl ?_
            exact hj78 q8.2 h
          · replace h := (if_neg hb9).symm.trans h
            refine V_iload_n eX7_bars_76 4 rfl ?_
            obtain rfl := Option.some.inj h
            exact V_ret eX7_bars_77 rfl ⟨rfl, rfl⟩
      refine V_icmp_ne (tgt := 47) eX7_bars_40 rfl (fun hb10 => ?_) (fun hb10 => ?_)
      · replace h := (if_neg hb10).symm.trans h
        refine V_iconst (v := (0 : Int32)) eX7_bars_47 rfl ?_
        exact hj48 (0 : Int32) h
      · replace h := (if_pos hb10).symm.trans h
        refine V_iconst (v := (1 : Int32)) eX7_bars_43 rfl ?_
        refine V_goto (tgt := 48) eX7_bars_44 rfl ?_
        exact hj48 (1 : Int32) h
set_option maxRecDepth 20000 in
theorem ctX7_bars (l : Launch) (G : tg_G) (A : Nat → Nat) (c : SS) (p1 : Int32) (p2 : Int32) {z : Int32 × SS} (h : fX7_bars c p1 p2 = some z) : Mt l G yX7_bars cX7_bars 5 (some .int) (tg_R 4 94) [.ref (A 0), .int p1, .int p2] (wM G A c) (fun v w1 => v = some (.int z.1) ∧ w1 = wM G A z.2) := by
  refine Mt_of2 (own := "TramGodModel") (nm := "bars") rfl rfl rfl (Nat.le_of_ble_eq_true rfl) (lv := [(0, .ref (A 0)), (1, .int p1), (2, .int p2)]) rfl ?_
  unfold fX7_bars at h
  refine V_aload_n eX7_bars_0 0 rfl ?_
  refine V_iload_n eX7_bars_1 1 rfl ?_
  refine V_iload_n eX7_bars_2 2 rfl ?_
  refine V_callVi (rest := []) eX7_bars_3 (ctX7_areSets l G A c p1 p2 rfl) tc_895 tw_892 tw_8 tw_894 ts_36 0 rfl rfl hdX7_areSets rfl ⟨Nat.le_of_ble_eq_true rfl, Nat.le_of_ble_eq_true rfl⟩ rfl (Nat.le_of_ble_eq_true rfl) ⟨Nat.zero_le _, Nat.zero_le _⟩ ?_
  refine V_if_ne (tgt := 12) eX7_bars_6 rfl (fun hb1 => ?_) (fun hb1 => ?_)
  · replace h := (if_neg hb1).symm.trans h
    refine V_aload_n eX7_bars_12 0 rfl ?_
    refine V_iload_n eX7_bars_13 1 rfl ?_
    refine V_iload_n eX7_bars_14 2 rfl ?_
    obtain ⟨q2, hc2, h⟩ := Option.bind_eq_some_iff.mp h
    refine V_callVi (rest := []) eX7_bars_15 (ctX7_fewestFor l G A c p1 p2 hc2) tc_900 tw_897 tw_8 tw_899 ts_37 0 rfl rfl hdX7_fewestFor rfl ⟨Nat.le_of_ble_eq_true rfl, Nat.le_of_ble_eq_true rfl⟩ rfl (Nat.le_of_ble_eq_true rfl) ⟨Nat.zero_le _, Nat.zero_le _⟩ ?_
    refine V_if_lt (tgt := 24) eX7_bars_18 rfl (fun hb3 => ?_) (fun hb3 => ?_)
    · replace h := (if_pos hb3).symm.trans h
      refine V_iconst (v := (0 : Int32)) eX7_bars_24 rfl ?_
      refine V_istore_n (lv' := [(3, .int (0 : Int32)), (0, .ref (A 0)), (1, .int p1), (2, .int p2)]) eX7_bars_25 (Nat.le_of_ble_eq_true rfl) rfl ?_
      refine V_lv (lv' := [(0, .ref (A 0)), (1, .int p1), (2, .int p2), (3, .int (0 : Int32))]) [1, 2, 3, 0] rfl ?_
      refine ctX7_bars_L26 l G A p1 p2 fu (0 : Int32) q2.2 h
    · replace h := (if_neg hb3).symm.trans h
      refine V_bipush (v := (-6 : Int32)) eX7_bars_21 rfl ?_
      obtain rfl := Option.some.inj h
      exact V_ret eX7_bars_23 rfl ⟨rfl, rfl⟩
  · replace h := (if_pos hb1).symm.trans h
    refine V_bipush (v := (-2 : Int32)) eX7_bars_9 rfl ?_
    obtain rfl := Option.some.inj h
    exact V_ret eX7_bars_11 rfl ⟨rfl, rfl⟩
theorem hdX7_comingIn : yX7_comingIn.cls ≠ "java/lang/invoke/MethodHandle" ∧ yX7_comingIn.cls ≠ "java/lang/invoke/VarHandle" ∧ (parseMethodDescriptor yX7_comingIn.desc).map (fun d => d.parameters.length) = some 1 := by decide +kernel
theorem eX7_comingIn_0 : Dc cX7_comingIn 0 (.iconst 0) 1 1 := ⟨by decide +kernel, rfl⟩
theorem eX7_comingIn_1 : Dc cX7_comingIn 1 (.istore_n 2) 1 2 := ⟨by decide +kernel, rfl⟩
theorem eX7_comingIn_2 : Dc cX7_comingIn 2 (.iconst 0) 1 3 := ⟨by decide +kernel, rfl⟩
theorem eX7_comingIn_3 : Dc cX7_comingIn 3 (.istore_n 3) 1 4 := ⟨by decide +kernel, rfl⟩
theorem eX7_comingIn_4 : Dc cX7_comingIn 4 (.iload_n 3) 1 5 := ⟨by decide +kernel, rfl⟩
theorem eX7_comingIn_5 : Dc cX7_comingIn 5 (.bipush 8) 2 7 := ⟨by decide +kernel, rfl⟩
theorem eX7_comingIn_7 : Dc cX7_comingIn 7 (.if_icmp .ge 33) 3 10 := ⟨by decide +kernel, rfl⟩
theorem eX7_comingIn_10 : Dc cX7_comingIn 10 (.iload_n 2) 1 11 := ⟨by decide +kernel, rfl⟩
theorem eX7_comingIn_11 : Dc cX7_comingIn 11 (.aload_n 0) 1 12 := ⟨by decide +kernel, rfl⟩
theorem eX7_comingIn_12 : Dc cX7_comingIn 12 (.getfield 28) 3 15 := ⟨by decide +kernel, rfl⟩
theorem eX7_comingIn_15 : Dc cX7_comingIn 15 (.iload_n 3) 1 16 := ⟨by decide +kernel, rfl⟩
theorem eX7_comingIn_16 : Dc cX7_comingIn 16 (.iaload) 1 17 := ⟨by decide +kernel, rfl⟩
theorem eX7_comingIn_17 : Dc cX7_comingIn 17 (.iload_n 1) 1 18 := ⟨by decide +kernel, rfl⟩
theorem eX7_comingIn_18 : Dc cX7_comingIn 18 (.ishr) 1 19 := ⟨by decide +kernel, rfl⟩
theorem eX7_comingIn_19 : Dc cX7_comingIn 19 (.iconst 1) 1 20 := ⟨by decide +kernel, rfl⟩
theorem eX7_comingIn_20 : Dc cX7_comingIn 20 (.iand) 1 21 := ⟨by decide +kernel, rfl⟩
theorem eX7_comingIn_21 : Dc cX7_comingIn 21 (.iconst 1) 1 22 := ⟨by decide +kernel, rfl⟩
theorem eX7_comingIn_22 : Dc cX7_comingIn 22 (.if_icmp .ne 9) 3 25 := ⟨by decide +kernel, rfl⟩
theorem eX7_comingIn_25 : Dc cX7_comingIn 25 (.iconst 1) 1 26 := ⟨by decide +kernel, rfl⟩
theorem eX7_comingIn_26 : Dc cX7_comingIn 26 (.iload_n 3) 1 27 := ⟨by decide +kernel, rfl⟩
theorem eX7_comingIn_27 : Dc cX7_comingIn 27 (.ishl) 1 28 := ⟨by decide +kernel, rfl⟩
theorem eX7_comingIn_28 : Dc cX7_comingIn 28 (.goto 4) 3 31 := ⟨by decide +kernel, rfl⟩
theorem eX7_comingIn_31 : Dc cX7_comingIn 31 (.iconst 0) 1 32 := ⟨by decide +kernel, rfl⟩
theorem eX7_comingIn_32 : Dc cX7_comingIn 32 (.ior) 1 33 := ⟨by decide +kernel, rfl⟩
theorem eX7_comingIn_33 : Dc cX7_comingIn 33 (.istore_n 2) 1 34 := ⟨by decide +kernel, rfl⟩
theorem eX7_comingIn_34 : Dc cX7_comingIn 34 (.iinc 3 1) 3 37 := ⟨by decide +kernel, rfl⟩
theorem eX7_comingIn_37 : Dc cX7_comingIn 37 (.goto (-33)) 3 40 := ⟨by decide +kernel, rfl⟩
theorem eX7_comingIn_40 : Dc cX7_comingIn 40 (.iload_n 2) 1 41 := ⟨by decide +kernel, rfl⟩
theorem eX7_comingIn_41 : Dc cX7_comingIn 41 (.ireturn) 1 42 := ⟨by decide +kernel, rfl⟩
def fX7_comingIn_L4  (c : SS) (a1 : Int32) : Nat → Int32 → Int32 → Option (Int32)
  | 0, _, _ => none
  | n + 1, a2, a3 => if (8 : Int32) ≤ a3 then some a2 else ald 8 (c.2 9) a3 (fun v2 => jn (fun (x3 : Int32) => fX7_comingIn_L4 c a1 n (a2 ||| x3) (a3 + (1 : Int32))) (fun j32 => if ((v2 >>> (a1 &&& 31)) &&& (1 : Int32)) = (1 : Int32) then j32 ((1 : Int32) <<< (a3 &&& 31)) else j32 (0 : Int32)))
def fX7_comingIn (c : SS) (p1 : Int32) : Option (Int32) := fX7_comingIn_L4 c p1 fu (0 : Int32) (0 : Int32)
set_option maxRecDepth 20000 in
theorem ctX7_comingIn_L4 (l : Launch) (G : tg_G) (A : Nat → Nat)  (c : SS) (a1 : Int32) {z : Int32}  : ∀ (n : Nat) (a2 : Int32) (a3 : Int32), fX7_comingIn_L4 c a1 n a2 a3 = some z → V l G (tg_Zm G (fun v w1 => v = some (.int z) ∧ w1 = wM G A c) 0 0) tg_E0 (tg_R 0 0) "TramGodModel" "comingIn" cX7_comingIn 4 (some .int) 4 [(0, .ref (A 0)), (1, .int a1), (2, .int a2), (3, .int a3)] [] (wM G A c) 0 0 := by
  intro n
  induction n with
  | zero => intro a2 a3 h; exact absurd h (by simp [fX7_comingIn_L4])
  | succ n ih =>
    intro a2 a3 h
    unfold fX7_comingIn_L4 at h
    refine V_iload_n eX7_comingIn_4 3 rfl ?_
    refine V_bipush (v := (8 : Int32)) eX7_comingIn_5 rfl ?_
    refine V_icmp_ge (tgt := 40) eX7_comingIn_7 rfl (fun hb1 => ?_) (fun hb1 => ?_)
    · replace h := (if_pos hb1).symm.trans h
      refine V_iload_n eX7_comingIn_40 2 rfl ?_
      obtain rfl := Option.some.inj h
      exact V_ret eX7_comingIn_41 rfl ⟨rfl, rfl⟩
    · replace h := (if_neg hb1).symm.trans h
      refine V_iload_n eX7_comingIn_10 2 rfl ?_
      refine V_aload_n eX7_comingIn_11 0 rfl ?_
      refine V_get (v := .ref (A 7)) eX7_comingIn_12 inX7 0 rfl rfl 9 (Nat.le_of_ble_eq_true rfl) tw_654 rfl ?_
      refine V_iload_n eX7_comingIn_15 3 rfl ?_
      obtain ⟨v2, hi2, ev2, h⟩ := ald_some h
      refine V_ialdv eX7_comingIn_16 7 rfl hi2 ev2 ?_
      refine V_iload_n eX7_comingIn_17 1 rfl ?_
      refine V_ishr eX7_comingIn_18 ?_
      refine V_iconst (v := (1 : Int32)) eX7_comingIn_19 rfl ?_
      refine V_iand eX7_comingIn_20 ?_
      refine V_iconst (v := (1 : Int32)) eX7_comingIn_21 rfl ?_
      refine jn_elim h (fun j => ∀ (x3 : Int32), j x3 = some z → V l G (tg_Zm G (fun v w1 => v = some (.int z) ∧ w1 = wM G A c) 0 0) tg_E0 (tg_R 0 0) "TramGodModel" "comingIn" cX7_comingIn 4 (some .int) 32 [(0, .ref (A 0)), (1, .int a1), (3, .int a3)] [.int x3, .int a2] (wM G A c) 0 0) ?_ (fun j32 hj32 h => ?_)
      · intro x3 h
        refine V_ior eX7_comingIn_32 ?_
        refine V_istore_n (lv' := [(2, .int (a2 ||| x3)), (0, .ref (A 0)), (1, .int a1), (3, .int a3)]) eX7_comingIn_33 (Nat.le_of_ble_eq_true rfl) rfl ?_
        refine V_iinc (v := (a3 + (1 : Int32))) (lv' := [(3, .int (a3 + (1 : Int32))), (2, .int (a2 ||| x3)), (0, .ref (A 0)), (1, .int a1)]) eX7_comingIn_34 3 rfl rfl (Nat.le_of_ble_eq_true rfl) rfl ?_
        refine V_goto (tgt := 4) eX7_comingIn_37 rfl ?_
        refine V_lv (lv' := [(0, .ref (A 0)), (1, .int a1), (2, .int (a2 ||| x3)), (3, .int (a3 + (1 : Int32)))]) [2, 3, 1, 0] rfl ?_
        exact ih (a2 ||| x3) (a3 + (1 : Int32)) h
      refine V_icmp_ne (tgt := 31) eX7_comingIn_22 rfl (fun hb4 => ?_) (fun hb4 => ?_)
      · replace h := (if_neg hb4).symm.trans h
        refine V_iconst (v := (0 : Int32)) eX7_comingIn_31 rfl ?_
        refine V_lv (lv' := [(0, .ref (A 0)), (1, .int a1), (3, .int a3)]) [0, 1, 3] rfl ?_
        exact hj32 (0 : Int32) h
      · replace h := (if_pos hb4).symm.trans h
        refine V_iconst (v := (1 : Int32)) eX7_comingIn_25 rfl ?_
        refine V_iload_n eX7_comingIn_26 3 rfl ?_
        refine V_ishl eX7_comingIn_27 ?_
        refine V_goto (tgt := 32) eX7_comingIn_28 rfl ?_
        refine V_lv (lv' := [(0, .ref (A 0)), (1, .int a1), (3, .int a3)]) [0, 1, 3] rfl ?_
        exact hj32 ((1 : Int32) <<< (a3 &&& 31)) h
set_option maxRecDepth 20000 in
theorem ctX7_comingIn (l : Launch) (G : tg_G) (A : Nat → Nat) (c : SS) (p1 : Int32) {z : Int32} (h : fX7_comingIn c p1 = some z) : Mt l G yX7_comingIn cX7_comingIn 4 (some .int) (tg_R 0 0) [.ref (A 0), .int p1] (wM G A c) (fun v w1 => v = some (.int z) ∧ w1 = wM G A c) := by
  refine Mt_of2 (own := "TramGodModel") (nm := "comingIn") rfl rfl rfl (Nat.le_of_ble_eq_true rfl) (lv := [(0, .ref (A 0)), (1, .int p1)]) rfl ?_
  unfold fX7_comingIn at h
  refine V_iconst (v := (0 : Int32)) eX7_comingIn_0 rfl ?_
  refine V_istore_n (lv' := [(2, .int (0 : Int32)), (0, .ref (A 0)), (1, .int p1)]) eX7_comingIn_1 (Nat.le_of_ble_eq_true rfl) rfl ?_
  refine V_iconst (v := (0 : Int32)) eX7_comingIn_2 rfl ?_
  refine V_istore_n (lv' := [(3, .int (0 : Int32)), (2, .int (0 : Int32)), (0, .ref (A 0)), (1, .int p1)]) eX7_comingIn_3 (Nat.le_of_ble_eq_true rfl) rfl ?_
  refine V_lv (lv' := [(0, .ref (A 0)), (1, .int p1), (2, .int (0 : Int32)), (3, .int (0 : Int32))]) [2, 3, 1, 0] rfl ?_
  refine ctX7_comingIn_L4 l G A c p1 fu (0 : Int32) (0 : Int32) h
theorem hdX7_fund : yX7_fund.cls ≠ "java/lang/invoke/MethodHandle" ∧ yX7_fund.cls ≠ "java/lang/invoke/VarHandle" ∧ (parseMethodDescriptor yX7_fund.desc).map (fun d => d.parameters.length) = some 3 := by decide +kernel
theorem eX7_fund_0 : Dc cX7_fund 0 (.iload_n 1) 1 1 := ⟨by decide +kernel, rfl⟩
theorem eX7_fund_1 : Dc cX7_fund 1 (.i2l) 1 2 := ⟨by decide +kernel, rfl⟩
theorem eX7_fund_2 : Dc cX7_fund 2 (.lconst 0) 1 3 := ⟨by decide +kernel, rfl⟩
theorem eX7_fund_3 : Dc cX7_fund 3 (.ldc2_w 191) 3 6 := ⟨by decide +kernel, rfl⟩
theorem eX7_fund_6 : Dc cX7_fund 6 (.invokestatic 79) 3 9 := ⟨by decide +kernel, rfl⟩
theorem eX7_fund_9 : Dc cX7_fund 9 (.ifCond .eq 30) 3 12 := ⟨by decide +kernel, rfl⟩
theorem eX7_fund_12 : Dc cX7_fund 12 (.iload_n 2) 1 13 := ⟨by decide +kernel, rfl⟩
theorem eX7_fund_13 : Dc cX7_fund 13 (.i2l) 1 14 := ⟨by decide +kernel, rfl⟩
theorem eX7_fund_14 : Dc cX7_fund 14 (.lconst 1) 1 15 := ⟨by decide +kernel, rfl⟩
theorem eX7_fund_15 : Dc cX7_fund 15 (.ldc2_w 86) 3 18 := ⟨by decide +kernel, rfl⟩
theorem eX7_fund_18 : Dc cX7_fund 18 (.invokestatic 79) 3 21 := ⟨by decide +kernel, rfl⟩
theorem eX7_fund_21 : Dc cX7_fund 21 (.ifCond .eq 18) 3 24 := ⟨by decide +kernel, rfl⟩
theorem eX7_fund_24 : Dc cX7_fund 24 (.iload_n 3) 1 25 := ⟨by decide +kernel, rfl⟩
theorem eX7_fund_25 : Dc cX7_fund 25 (.i2l) 1 26 := ⟨by decide +kernel, rfl⟩
theorem eX7_fund_26 : Dc cX7_fund 26 (.ldc2_w 193) 3 29 := ⟨by decide +kernel, rfl⟩
theorem eX7_fund_29 : Dc cX7_fund 29 (.iload_n 2) 1 30 := ⟨by decide +kernel, rfl⟩
theorem eX7_fund_30 : Dc cX7_fund 30 (.iconst 1) 1 31 := ⟨by decide +kernel, rfl⟩
theorem eX7_fund_31 : Dc cX7_fund 31 (.isub) 1 32 := ⟨by decide +kernel, rfl⟩
theorem eX7_fund_32 : Dc cX7_fund 32 (.i2l) 1 33 := ⟨by decide +kernel, rfl⟩
theorem eX7_fund_33 : Dc cX7_fund 33 (.invokestatic 79) 3 36 := ⟨by decide +kernel, rfl⟩
theorem eX7_fund_36 : Dc cX7_fund 36 (.ifCond .ne 6) 3 39 := ⟨by decide +kernel, rfl⟩
theorem eX7_fund_39 : Dc cX7_fund 39 (.bipush (-2)) 2 41 := ⟨by decide +kernel, rfl⟩
theorem eX7_fund_41 : Dc cX7_fund 41 (.ireturn) 1 42 := ⟨by decide +kernel, rfl⟩
theorem eX7_fund_42 : Dc cX7_fund 42 (.iconst 0) 1 43 := ⟨by decide +kernel, rfl⟩
theorem eX7_fund_43 : Dc cX7_fund 43 (.istore 4) 2 45 := ⟨by decide +kernel, rfl⟩
theorem eX7_fund_45 : Dc cX7_fund 45 (.iload 4) 2 47 := ⟨by decide +kernel, rfl⟩
theorem eX7_fund_47 : Dc cX7_fund 47 (.bipush 40) 2 49 := ⟨by decide +kernel, rfl⟩
theorem eX7_fund_49 : Dc cX7_fund 49 (.if_icmp .gt 22) 3 52 := ⟨by decide +kernel, rfl⟩
theorem eX7_fund_52 : Dc cX7_fund 52 (.aload_n 0) 1 53 := ⟨by decide +kernel, rfl⟩
theorem eX7_fund_53 : Dc cX7_fund 53 (.getfield 52) 3 56 := ⟨by decide +kernel, rfl⟩
theorem eX7_fund_56 : Dc cX7_fund 56 (.bipush 41) 2 58 := ⟨by decide +kernel, rfl⟩
theorem eX7_fund_58 : Dc cX7_fund 58 (.iload_n 2) 1 59 := ⟨by decide +kernel, rfl⟩
theorem eX7_fund_59 : Dc cX7_fund 59 (.imul) 1 60 := ⟨by decide +kernel, rfl⟩
theorem eX7_fund_60 : Dc cX7_fund 60 (.iload 4) 2 62 := ⟨by decide +kernel, rfl⟩
theorem eX7_fund_62 : Dc cX7_fund 62 (.iadd) 1 63 := ⟨by decide +kernel, rfl⟩
theorem eX7_fund_63 : Dc cX7_fund 63 (.iconst 0) 1 64 := ⟨by decide +kernel, rfl⟩
theorem eX7_fund_64 : Dc cX7_fund 64 (.iastore) 1 65 := ⟨by decide +kernel, rfl⟩
theorem eX7_fund_65 : Dc cX7_fund 65 (.iinc 4 1) 3 68 := ⟨by decide +kernel, rfl⟩
theorem eX7_fund_68 : Dc cX7_fund 68 (.goto (-23)) 3 71 := ⟨by decide +kernel, rfl⟩
theorem eX7_fund_71 : Dc cX7_fund 71 (.iload_n 2) 1 72 := ⟨by decide +kernel, rfl⟩
theorem eX7_fund_72 : Dc cX7_fund 72 (.iconst 1) 1 73 := ⟨by decide +kernel, rfl⟩
theorem eX7_fund_73 : Dc cX7_fund 73 (.isub) 1 74 := ⟨by decide +kernel, rfl⟩
theorem eX7_fund_74 : Dc cX7_fund 74 (.istore 4) 2 76 := ⟨by decide +kernel, rfl⟩
theorem eX7_fund_76 : Dc cX7_fund 76 (.iload 4) 2 78 := ⟨by decide +kernel, rfl⟩
theorem eX7_fund_78 : Dc cX7_fund 78 (.ifCond .lt 162) 3 81 := ⟨by decide +kernel, rfl⟩
theorem eX7_fund_81 : Dc cX7_fund 81 (.iconst 0) 1 82 := ⟨by decide +kernel, rfl⟩
theorem eX7_fund_82 : Dc cX7_fund 82 (.istore 5) 2 84 := ⟨by decide +kernel, rfl⟩
theorem eX7_fund_84 : Dc cX7_fund 84 (.iload 5) 2 86 := ⟨by decide +kernel, rfl⟩
theorem eX7_fund_86 : Dc cX7_fund 86 (.aload_n 0) 1 87 := ⟨by decide +kernel, rfl⟩
theorem eX7_fund_87 : Dc cX7_fund 87 (.getfield 73) 3 90 := ⟨by decide +kernel, rfl⟩
theorem eX7_fund_90 : Dc cX7_fund 90 (.if_icmp .gt 34) 3 93 := ⟨by decide +kernel, rfl⟩
theorem eX7_fund_93 : Dc cX7_fund 93 (.aload_n 0) 1 94 := ⟨by decide +kernel, rfl⟩
theorem eX7_fund_94 : Dc cX7_fund 94 (.getfield 49) 3 97 := ⟨by decide +kernel, rfl⟩
theorem eX7_fund_97 : Dc cX7_fund 97 (.bipush 10) 2 99 := ⟨by decide +kernel, rfl⟩
theorem eX7_fund_99 : Dc cX7_fund 99 (.iload 4) 2 101 := ⟨by decide +kernel, rfl⟩
theorem eX7_fund_101 : Dc cX7_fund 101 (.imul) 1 102 := ⟨by decide +kernel, rfl⟩
theorem eX7_fund_102 : Dc cX7_fund 102 (.iload 5) 2 104 := ⟨by decide +kernel, rfl⟩
theorem eX7_fund_104 : Dc cX7_fund 104 (.iadd) 1 105 := ⟨by decide +kernel, rfl⟩
theorem eX7_fund_105 : Dc cX7_fund 105 (.aload_n 0) 1 106 := ⟨by decide +kernel, rfl⟩
theorem eX7_fund_106 : Dc cX7_fund 106 (.iload 5) 2 108 := ⟨by decide +kernel, rfl⟩
theorem eX7_fund_108 : Dc cX7_fund 108 (.aload_n 0) 1 109 := ⟨by decide +kernel, rfl⟩
theorem eX7_fund_109 : Dc cX7_fund 109 (.iload 4) 2 111 := ⟨by decide +kernel, rfl⟩
theorem eX7_fund_111 : Dc cX7_fund 111 (.invokevirtual 195) 3 114 := ⟨by decide +kernel, rfl⟩
theorem eX7_fund_114 : Dc cX7_fund 114 (.invokevirtual 180) 3 117 := ⟨by decide +kernel, rfl⟩
theorem eX7_fund_117 : Dc cX7_fund 117 (.iastore) 1 118 := ⟨by decide +kernel, rfl⟩
theorem eX7_fund_118 : Dc cX7_fund 118 (.iinc 5 1) 3 121 := ⟨by decide +kernel, rfl⟩
theorem eX7_fund_121 : Dc cX7_fund 121 (.goto (-37)) 3 124 := ⟨by decide +kernel, rfl⟩
theorem eX7_fund_124 : Dc cX7_fund 124 (.iconst 0) 1 125 := ⟨by decide +kernel, rfl⟩
theorem eX7_fund_125 : Dc cX7_fund 125 (.istore 5) 2 127 := ⟨by decide +kernel, rfl⟩
theorem eX7_fund_127 : Dc cX7_fund 127 (.iload 5) 2 129 := ⟨by decide +kernel, rfl⟩
theorem eX7_fund_129 : Dc cX7_fund 129 (.bipush 40) 2 131 := ⟨by decide +kernel, rfl⟩
theorem eX7_fund_131 : Dc cX7_fund 131 (.if_icmp .gt 103) 3 134 := ⟨by decide +kernel, rfl⟩
theorem eX7_fund_134 : Dc cX7_fund 134 (.ldc 173) 2 136 := ⟨by decide +kernel, rfl⟩
theorem eX7_fund_136 : Dc cX7_fund 136 (.istore 6) 2 138 := ⟨by decide +kernel, rfl⟩
theorem eX7_fund_138 : Dc cX7_fund 138 (.iconst 0) 1 139 := ⟨by decide +kernel, rfl⟩
theorem eX7_fund_139 : Dc cX7_fund 139 (.istore 7) 2 141 := ⟨by decide +kernel, rfl⟩
theorem eX7_fund_141 : Dc cX7_fund 141 (.iload 7) 2 143 := ⟨by decide +kernel, rfl⟩
theorem eX7_fund_143 : Dc cX7_fund 143 (.aload_n 0) 1 144 := ⟨by decide +kernel, rfl⟩
theorem eX7_fund_144 : Dc cX7_fund 144 (.getfield 73) 3 147 := ⟨by decide +kernel, rfl⟩
theorem eX7_fund_147 : Dc cX7_fund 147 (.if_icmp .gt 66) 3 150 := ⟨by decide +kernel, rfl⟩
theorem eX7_fund_150 : Dc cX7_fund 150 (.iload 7) 2 152 := ⟨by decide +kernel, rfl⟩
theorem eX7_fund_152 : Dc cX7_fund 152 (.iload 5) 2 154 := ⟨by decide +kernel, rfl⟩
theorem eX7_fund_154 : Dc cX7_fund 154 (.if_icmp .gt 59) 3 157 := ⟨by decide +kernel, rfl⟩
theorem eX7_fund_157 : Dc cX7_fund 157 (.aload_n 0) 1 158 := ⟨by decide +kernel, rfl⟩
theorem eX7_fund_158 : Dc cX7_fund 158 (.getfield 49) 3 161 := ⟨by decide +kernel, rfl⟩
theorem eX7_fund_161 : Dc cX7_fund 161 (.bipush 10) 2 163 := ⟨by decide +kernel, rfl⟩
theorem eX7_fund_163 : Dc cX7_fund 163 (.iload 4) 2 165 := ⟨by decide +kernel, rfl⟩
theorem eX7_fund_165 : Dc cX7_fund 165 (.imul) 1 166 := ⟨by decide +kernel, rfl⟩
theorem eX7_fund_166 : Dc cX7_fund 166 (.iload 7) 2 168 := ⟨by decide +kernel, rfl⟩
theorem eX7_fund_168 : Dc cX7_fund 168 (.iadd) 1 169 := ⟨by decide +kernel, rfl⟩
theorem eX7_fund_169 : Dc cX7_fund 169 (.iaload) 1 170 := ⟨by decide +kernel, rfl⟩
theorem eX7_fund_170 : Dc cX7_fund 170 (.aload_n 0) 1 171 := ⟨by decide +kernel, rfl⟩
theorem eX7_fund_171 : Dc cX7_fund 171 (.getfield 52) 3 174 := ⟨by decide +kernel, rfl⟩
theorem eX7_fund_174 : Dc cX7_fund 174 (.bipush 41) 2 176 := ⟨by decide +kernel, rfl⟩
theorem eX7_fund_176 : Dc cX7_fund 176 (.iload 4) 2 178 := ⟨by decide +kernel, rfl⟩
theorem eX7_fund_178 : Dc cX7_fund 178 (.iconst 1) 1 179 := ⟨by decide +kernel, rfl⟩
theorem eX7_fund_179 : Dc cX7_fund 179 (.iadd) 1 180 := ⟨by decide +kernel, rfl⟩
theorem eX7_fund_180 : Dc cX7_fund 180 (.imul) 1 181 := ⟨by decide +kernel, rfl⟩
theorem eX7_fund_181 : Dc cX7_fund 181 (.iload 5) 2 183 := ⟨by decide +kernel, rfl⟩
theorem eX7_fund_183 : Dc cX7_fund 183 (.iadd) 1 184 := ⟨by decide +kernel, rfl⟩
theorem eX7_fund_184 : Dc cX7_fund 184 (.iload 7) 2 186 := ⟨by decide +kernel, rfl⟩
theorem eX7_fund_186 : Dc cX7_fund 186 (.isub) 1 187 := ⟨by decide +kernel, rfl⟩
theorem eX7_fund_187 : Dc cX7_fund 187 (.iaload) 1 188 := ⟨by decide +kernel, rfl⟩
theorem eX7_fund_188 : Dc cX7_fund 188 (.iadd) 1 189 := ⟨by decide +kernel, rfl⟩
theorem eX7_fund_189 : Dc cX7_fund 189 (.istore 8) 2 191 := ⟨by decide +kernel, rfl⟩
theorem eX7_fund_191 : Dc cX7_fund 191 (.iload 8) 2 193 := ⟨by decide +kernel, rfl⟩
theorem eX7_fund_193 : Dc cX7_fund 193 (.iload 6) 2 195 := ⟨by decide +kernel, rfl⟩
theorem eX7_fund_195 : Dc cX7_fund 195 (.if_icmp .le 8) 3 198 := ⟨by decide +kernel, rfl⟩
theorem eX7_fund_198 : Dc cX7_fund 198 (.iload 8) 2 200 := ⟨by decide +kernel, rfl⟩
theorem eX7_fund_200 : Dc cX7_fund 200 (.goto 5) 3 203 := ⟨by decide +kernel, rfl⟩
theorem eX7_fund_203 : Dc cX7_fund 203 (.iload 6) 2 205 := ⟨by decide +kernel, rfl⟩
theorem eX7_fund_205 : Dc cX7_fund 205 (.istore 6) 2 207 := ⟨by decide +kernel, rfl⟩
theorem eX7_fund_207 : Dc cX7_fund 207 (.iinc 7 1) 3 210 := ⟨by decide +kernel, rfl⟩
theorem eX7_fund_210 : Dc cX7_fund 210 (.goto (-69)) 3 213 := ⟨by decide +kernel, rfl⟩
theorem eX7_fund_213 : Dc cX7_fund 213 (.aload_n 0) 1 214 := ⟨by decide +kernel, rfl⟩
theorem eX7_fund_214 : Dc cX7_fund 214 (.getfield 52) 3 217 := ⟨by decide +kernel, rfl⟩
theorem eX7_fund_217 : Dc cX7_fund 217 (.bipush 41) 2 219 := ⟨by decide +kernel, rfl⟩
theorem eX7_fund_219 : Dc cX7_fund 219 (.iload 4) 2 221 := ⟨by decide +kernel, rfl⟩
theorem eX7_fund_221 : Dc cX7_fund 221 (.imul) 1 222 := ⟨by decide +kernel, rfl⟩
theorem eX7_fund_222 : Dc cX7_fund 222 (.iload 5) 2 224 := ⟨by decide +kernel, rfl⟩
theorem eX7_fund_224 : Dc cX7_fund 224 (.iadd) 1 225 := ⟨by decide +kernel, rfl⟩
theorem eX7_fund_225 : Dc cX7_fund 225 (.iload 6) 2 227 := ⟨by decide +kernel, rfl⟩
theorem eX7_fund_227 : Dc cX7_fund 227 (.iastore) 1 228 := ⟨by decide +kernel, rfl⟩
theorem eX7_fund_228 : Dc cX7_fund 228 (.iinc 5 1) 3 231 := ⟨by decide +kernel, rfl⟩
theorem eX7_fund_231 : Dc cX7_fund 231 (.goto (-104)) 3 234 := ⟨by decide +kernel, rfl⟩
theorem eX7_fund_234 : Dc cX7_fund 234 (.iinc 4 (-1)) 3 237 := ⟨by decide +kernel, rfl⟩
theorem eX7_fund_237 : Dc cX7_fund 237 (.goto (-161)) 3 240 := ⟨by decide +kernel, rfl⟩
theorem eX7_fund_240 : Dc cX7_fund 240 (.iload_n 3) 1 241 := ⟨by decide +kernel, rfl⟩
theorem eX7_fund_241 : Dc cX7_fund 241 (.iconst (-1)) 1 242 := ⟨by decide +kernel, rfl⟩
theorem eX7_fund_242 : Dc cX7_fund 242 (.if_icmp .ne 14) 3 245 := ⟨by decide +kernel, rfl⟩
theorem eX7_fund_245 : Dc cX7_fund 245 (.sipush 10000) 3 248 := ⟨by decide +kernel, rfl⟩
theorem eX7_fund_248 : Dc cX7_fund 248 (.aload_n 0) 1 249 := ⟨by decide +kernel, rfl⟩
theorem eX7_fund_249 : Dc cX7_fund 249 (.getfield 52) 3 252 := ⟨by decide +kernel, rfl⟩
theorem eX7_fund_252 : Dc cX7_fund 252 (.iload_n 1) 1 253 := ⟨by decide +kernel, rfl⟩
theorem eX7_fund_253 : Dc cX7_fund 253 (.iaload) 1 254 := ⟨by decide +kernel, rfl⟩
theorem eX7_fund_254 : Dc cX7_fund 254 (.iadd) 1 255 := ⟨by decide +kernel, rfl⟩
theorem eX7_fund_255 : Dc cX7_fund 255 (.ireturn) 1 256 := ⟨by decide +kernel, rfl⟩
theorem eX7_fund_256 : Dc cX7_fund 256 (.iload_n 1) 1 257 := ⟨by decide +kernel, rfl⟩
theorem eX7_fund_257 : Dc cX7_fund 257 (.istore 4) 2 259 := ⟨by decide +kernel, rfl⟩
theorem eX7_fund_259 : Dc cX7_fund 259 (.iconst 0) 1 260 := ⟨by decide +kernel, rfl⟩
theorem eX7_fund_260 : Dc cX7_fund 260 (.istore 5) 2 262 := ⟨by decide +kernel, rfl⟩
theorem eX7_fund_262 : Dc cX7_fund 262 (.iconst 0) 1 263 := ⟨by decide +kernel, rfl⟩
theorem eX7_fund_263 : Dc cX7_fund 263 (.istore 6) 2 265 := ⟨by decide +kernel, rfl⟩
theorem eX7_fund_265 : Dc cX7_fund 265 (.iload 6) 2 267 := ⟨by decide +kernel, rfl⟩
theorem eX7_fund_267 : Dc cX7_fund 267 (.iload_n 3) 1 268 := ⟨by decide +kernel, rfl⟩
theorem eX7_fund_268 : Dc cX7_fund 268 (.if_icmp .gt 73) 3 271 := ⟨by decide +kernel, rfl⟩
theorem eX7_fund_271 : Dc cX7_fund 271 (.iconst 0) 1 272 := ⟨by decide +kernel, rfl⟩
theorem eX7_fund_272 : Dc cX7_fund 272 (.istore 5) 2 274 := ⟨by decide +kernel, rfl⟩
theorem eX7_fund_274 : Dc cX7_fund 274 (.aload_n 0) 1 275 := ⟨by decide +kernel, rfl⟩
theorem eX7_fund_275 : Dc cX7_fund 275 (.getfield 49) 3 278 := ⟨by decide +kernel, rfl⟩
theorem eX7_fund_278 : Dc cX7_fund 278 (.bipush 10) 2 280 := ⟨by decide +kernel, rfl⟩
theorem eX7_fund_280 : Dc cX7_fund 280 (.iload 6) 2 282 := ⟨by decide +kernel, rfl⟩
theorem eX7_fund_282 : Dc cX7_fund 282 (.imul) 1 283 := ⟨by decide +kernel, rfl⟩
theorem eX7_fund_283 : Dc cX7_fund 283 (.iload 5) 2 285 := ⟨by decide +kernel, rfl⟩
theorem eX7_fund_285 : Dc cX7_fund 285 (.iadd) 1 286 := ⟨by decide +kernel, rfl⟩
theorem eX7_fund_286 : Dc cX7_fund 286 (.iaload) 1 287 := ⟨by decide +kernel, rfl⟩
theorem eX7_fund_287 : Dc cX7_fund 287 (.aload_n 0) 1 288 := ⟨by decide +kernel, rfl⟩
theorem eX7_fund_288 : Dc cX7_fund 288 (.getfield 52) 3 291 := ⟨by decide +kernel, rfl⟩
theorem eX7_fund_291 : Dc cX7_fund 291 (.bipush 41) 2 293 := ⟨by decide +kernel, rfl⟩
theorem eX7_fund_293 : Dc cX7_fund 293 (.iload 6) 2 295 := ⟨by decide +kernel, rfl⟩
theorem eX7_fund_295 : Dc cX7_fund 295 (.iconst 1) 1 296 := ⟨by decide +kernel, rfl⟩
theorem eX7_fund_296 : Dc cX7_fund 296 (.iadd) 1 297 := ⟨by decide +kernel, rfl⟩
theorem eX7_fund_297 : Dc cX7_fund 297 (.imul) 1 298 := ⟨by decide +kernel, rfl⟩
theorem eX7_fund_298 : Dc cX7_fund 298 (.iload 4) 2 300 := ⟨by decide +kernel, rfl⟩
theorem eX7_fund_300 : Dc cX7_fund 300 (.iadd) 1 301 := ⟨by decide +kernel, rfl⟩
theorem eX7_fund_301 : Dc cX7_fund 301 (.iload 5) 2 303 := ⟨by decide +kernel, rfl⟩
theorem eX7_fund_303 : Dc cX7_fund 303 (.isub) 1 304 := ⟨by decide +kernel, rfl⟩
theorem eX7_fund_304 : Dc cX7_fund 304 (.iaload) 1 305 := ⟨by decide +kernel, rfl⟩
theorem eX7_fund_305 : Dc cX7_fund 305 (.iadd) 1 306 := ⟨by decide +kernel, rfl⟩
theorem eX7_fund_306 : Dc cX7_fund 306 (.aload_n 0) 1 307 := ⟨by decide +kernel, rfl⟩
theorem eX7_fund_307 : Dc cX7_fund 307 (.getfield 52) 3 310 := ⟨by decide +kernel, rfl⟩
theorem eX7_fund_310 : Dc cX7_fund 310 (.bipush 41) 2 312 := ⟨by decide +kernel, rfl⟩
theorem eX7_fund_312 : Dc cX7_fund 312 (.iload 6) 2 314 := ⟨by decide +kernel, rfl⟩
theorem eX7_fund_314 : Dc cX7_fund 314 (.imul) 1 315 := ⟨by decide +kernel, rfl⟩
theorem eX7_fund_315 : Dc cX7_fund 315 (.iload 4) 2 317 := ⟨by decide +kernel, rfl⟩
theorem eX7_fund_317 : Dc cX7_fund 317 (.iadd) 1 318 := ⟨by decide +kernel, rfl⟩
theorem eX7_fund_318 : Dc cX7_fund 318 (.iaload) 1 319 := ⟨by decide +kernel, rfl⟩
theorem eX7_fund_319 : Dc cX7_fund 319 (.if_icmp .eq 9) 3 322 := ⟨by decide +kernel, rfl⟩
theorem eX7_fund_322 : Dc cX7_fund 322 (.iinc 5 1) 3 325 := ⟨by decide +kernel, rfl⟩
theorem eX7_fund_325 : Dc cX7_fund 325 (.goto (-51)) 3 328 := ⟨by decide +kernel, rfl⟩
theorem eX7_fund_328 : Dc cX7_fund 328 (.iload 4) 2 330 := ⟨by decide +kernel, rfl⟩
theorem eX7_fund_330 : Dc cX7_fund 330 (.iload 5) 2 332 := ⟨by decide +kernel, rfl⟩
theorem eX7_fund_332 : Dc cX7_fund 332 (.isub) 1 333 := ⟨by decide +kernel, rfl⟩
theorem eX7_fund_333 : Dc cX7_fund 333 (.istore 4) 2 335 := ⟨by decide +kernel, rfl⟩
theorem eX7_fund_335 : Dc cX7_fund 335 (.iinc 6 1) 3 338 := ⟨by decide +kernel, rfl⟩
theorem eX7_fund_338 : Dc cX7_fund 338 (.goto (-73)) 3 341 := ⟨by decide +kernel, rfl⟩
theorem eX7_fund_341 : Dc cX7_fund 341 (.iload 5) 2 343 := ⟨by decide +kernel, rfl⟩
theorem eX7_fund_343 : Dc cX7_fund 343 (.ireturn) 1 344 := ⟨by decide +kernel, rfl⟩
def fX7_fund_L45 (k : SS → Option (Int32 × SS)) (a1 : Int32) (a2 : Int32) (a3 : Int32) : Nat → Int32 → SS → Option (Int32 × SS)
  | 0, _, _ => none
  | n + 1, a4, c => if (40 : Int32) < a4 then k c else ckb 328 (((41 : Int32) * a2) + a4) (fX7_fund_L45 k a1 a2 a3 n (a4 + (1 : Int32)) (sA c 23 ((((41 : Int32) * a2) + a4)).toNatClampNeg (0 : Int32)))
def fX7_fund_L84 (k : SS → Option (Int32 × SS)) (a1 : Int32) (a3 : Int32) (a4 : Int32) : Nat → Int32 → SS → Option (Int32 × SS)
  | 0, _, _ => none
  | n + 1, a5, c => if (c.1 10) < a5 then k c else Option.bind (fX7_comingIn c a4) (fun q9 => Option.bind (fX7_bestBy c a5 q9) (fun q10 => ckb 70 (((10 : Int32) * a4) + a5) (fX7_fund_L84 k a1 a3 a4 n (a5 + (1 : Int32)) (sA q10.2 22 ((((10 : Int32) * a4) + a5)).toNatClampNeg q10.1))))
def fX7_fund_L141 (k : Int32 → Option (Int32 × SS)) (c : SS) (a1 : Int32) (a3 : Int32) (a4 : Int32) (a5 : Int32) : Nat → Int32 → Int32 → Option (Int32 × SS)
  | 0, _, _ => none
  | n + 1, a6, a7 => if (c.1 10) < a7 then k a6 else if a5 < a7 then k a6 else ald 70 (c.2 22) (((10 : Int32) * a4) + a7) (fun v16 => ald 328 (c.2 23) ((((41 : Int32) * (a4 + (1 : Int32))) + a5) - a7) (fun v17 => jn (fun (x18 : Int32) => fX7_fund_L141 k c a1 a3 a4 a5 n x18 (a7 + (1 : Int32))) (fun j205 => if (v16 + v17) ≤ a6 then j205 a6 else j205 (v16 + v17))))
def fX7_fund_L127 (k : SS → Option (Int32 × SS)) (a1 : Int32) (a3 : Int32) (a4 : Int32) : Nat → Int32 → SS → Option (Int32 × SS)
  | 0, _, _ => none
  | n + 1, a5, c => if (40 : Int32) < a5 then k c else fX7_fund_L141 (fun (x20 : Int32) => ckb 328 (((41 : Int32) * a4) + a5) (fX7_fund_L127 k a1 a3 a4 n (a5 + (1 : Int32)) (sA c 23 ((((41 : Int32) * a4) + a5)).toNatClampNeg x20))) c a1 a3 a4 a5 fu (-1000000 : Int32) (0 : Int32)
def fX7_fund_L76 (k : SS → Option (Int32 × SS)) (a1 : Int32) (a3 : Int32) : Nat → Int32 → SS → Option (Int32 × SS)
  | 0, _, _ => none
  | n + 1, a4, c => if a4 < (0 : Int32) then k c else fX7_fund_L84 (fun (c12 : SS) => fX7_fund_L127 (fun (c22 : SS) => fX7_fund_L76 k a1 a3 n (a4 + (-1 : Int32)) c22) a1 a3 a4 fu (0 : Int32) c12) a1 a3 a4 fu (0 : Int32) c
def fX7_fund_L274 (k : Int32 → Option (Int32 × SS)) (c : SS) (a3 : Int32) (a4 : Int32) (a6 : Int32) : Nat → Int32 → Option (Int32 × SS)
  | 0, _ => none
  | n + 1, a5 => ald 70 (c.2 22) (((10 : Int32) * a6) + a5) (fun v26 => ald 328 (c.2 23) ((((41 : Int32) * (a6 + (1 : Int32))) + a4) - a5) (fun v27 => ald 328 (c.2 23) (((41 : Int32) * a6) + a4) (fun v28 => if (v26 + v27) = v28 then k a5 else fX7_fund_L274 k c a3 a4 a6 n (a5 + (1 : Int32)))))
def fX7_fund_L265  (c : SS) (a3 : Int32) : Nat → Int32 → Int32 → Int32 → Option (Int32 × SS)
  | 0, _, _, _ => none
  | n + 1, a4, a5, a6 => if a3 < a6 then some (a5, c) else fX7_fund_L274 (fun (x30 : Int32) => fX7_fund_L265 c a3 n (a4 - x30) x30 (a6 + (1 : Int32))) c a3 a4 a6 fu (0 : Int32)
def fX7_fund (c : SS) (p1 : Int32) (p2 : Int32) (p3 : Int32) : Option (Int32 × SS) := if (fX7_in (p1).toInt64 (0 : Int64) (40 : Int64)) = (0 : Int32) then some ((-2 : Int32), c) else if (fX7_in (p2).toInt64 (1 : Int64) (7 : Int64)) = (0 : Int32) then some ((-2 : Int32), c) else if (fX7_in (p3).toInt64 (-1 : Int64) ((p2 - (1 : Int32))).toInt64) = (0 : Int32) then some ((-2 : Int32), c) else fX7_fund_L45 (fun (c6 : SS) => fX7_fund_L76 (fun (c23 : SS) => if p3 = (-1 : Int32) then ald 328 (c23.2 23) p1 (fun v31 => some (((10000 : Int32) + v31), c23)) else fX7_fund_L265 c23 p3 fu p1 (0 : Int32) (0 : Int32)) p1 p3 fu (p2 - (1 : Int32)) c6) p1 p2 p3 fu (0 : Int32) c
set_option maxRecDepth 20000 in
theorem ctX7_fund_L45 (l : Launch) (G : tg_G) (A : Nat → Nat) (k : SS → Option (Int32 × SS)) (a1 : Int32) (a2 : Int32) (a3 : Int32) {z : Int32 × SS} (hk : ∀ (ec : SS), k ec = some z → V l G (tg_Zm G (fun v w1 => v = some (.int z.1) ∧ w1 = wM G A z.2) 0 0) tg_E0 (tg_R 4 96) "TramGodModel" "fund" cX7_fund 9 (some .int) 71 [(0, .ref (A 0)), (1, .int a1), (2, .int a2), (3, .int a3)] [] (wM G A ec) 0 0) : ∀ (n : Nat) (a4 : Int32) (c : SS), fX7_fund_L45 k a1 a2 a3 n a4 c = some z → V l G (tg_Zm G (fun v w1 => v = some (.int z.1) ∧ w1 = wM G A z.2) 0 0) tg_E0 (tg_R 4 96) "TramGodModel" "fund" cX7_fund 9 (some .int) 45 [(0, .ref (A 0)), (1, .int a1), (2, .int a2), (3, .int a3), (4, .int a4)] [] (wM G A c) 0 0 := by
  intro n
  induction n with
  | zero => intro a4 c h; exact absurd h (by simp [fX7_fund_L45])
  | succ n ih =>
    intro a4 c h
    unfold fX7_fund_L45 at h
    refine V_iload eX7_fund_45 4 rfl ?_
    refine V_bipush (v := (40 : Int32)) eX7_fund_47 rfl ?_
    refine V_icmp_gt (tgt := 71) eX7_fund_49 rfl (fun hb4 => ?_) (fun hb4 => ?_)
    · replace h := (if_pos hb4).symm.trans h
      refine V_lv (lv' := [(0, .ref (A 0)), (1, .int a1), (2, .int a2), (3, .int a3)]) [0, 1, 2, 3] rfl ?_
      exact hk c h
    · replace h := (if_neg hb4).symm.trans h
      refine V_aload_n eX7_fund_52 0 rfl ?_
      refine V_get (v := .ref (A 15)) eX7_fund_53 inX7 0 rfl rfl 23 (Nat.le_of_ble_eq_true rfl) tw_668 rfl ?_
      refine V_bipush (v := (41 : Int32)) eX7_fund_56 rfl ?_
      refine V_iload_n eX7_fund_58 2 rfl ?_
      refine V_imul eX7_fund_59 ?_
      refine V_iload eX7_fund_60 4 rfl ?_
      refine V_iadd eX7_fund_62 ?_
      refine V_iconst (v := (0 : Int32)) eX7_fund_63 rfl ?_
      obtain ⟨hi5, h⟩ := ckb_some h
      refine V_iast (w' := wM G A (sA c 23 ((((41 : Int32) * a2) + a4)).toNatClampNeg (0 : Int32))) eX7_fund_64 15 rfl hi5 rfl ?_
      refine V_iinc (v := (a4 + (1 : Int32))) (lv' := [(4, .int (a4 + (1 : Int32))), (0, .ref (A 0)), (1, .int a1), (2, .int a2), (3, .int a3)]) eX7_fund_65 4 rfl rfl (Nat.le_of_ble_eq_true rfl) rfl ?_
      refine V_goto (tgt := 45) eX7_fund_68 rfl ?_
      refine V_lv (lv' := [(0, .ref (A 0)), (1, .int a1), (2, .int a2), (3, .int a3), (4, .int (a4 + (1 : Int32)))]) [1, 2, 3, 4, 0] rfl ?_
      exact ih (a4 + (1 : Int32)) (sA c 23 ((((41 : Int32) * a2) + a4)).toNatClampNeg (0 : Int32)) h
set_option maxRecDepth 20000 in
theorem ctX7_fund_L84 (l : Launch) (G : tg_G) (A : Nat → Nat) (k : SS → Option (Int32 × SS)) (a1 : Int32) (a3 : Int32) (a4 : Int32) {z : Int32 × SS} (hk : ∀ (ec : SS), k ec = some z → V l G (tg_Zm G (fun v w1 => v = some (.int z.1) ∧ w1 = wM G A z.2) 0 0) tg_E0 (tg_R 4 96) "TramGodModel" "fund" cX7_fund 9 (some .int) 124 [(0, .ref (A 0)), (1, .int a1), (3, .int a3), (4, .int a4)] [] (wM G A ec) 0 0) : ∀ (n : Nat) (a5 : Int32) (c : SS), fX7_fund_L84 k a1 a3 a4 n a5 c = some z → V l G (tg_Zm G (fun v w1 => v = some (.int z.1) ∧ w1 = wM G A z.2) 0 0) tg_E0 (tg_R 4 96) "TramGodModel" "fund" cX7_fund 9 (some .int) 84 [(0, .ref (A 0)), (1, .int a1), (3, .int a3), (4, .int a4), (5, .int a5)] [] (wM G A c) 0 0 := by
  intro n
  induction n with
  | zero => intro a5 c h; exact absurd h (by simp [fX7_fund_L84])
  | succ n ih =>
    intro a5 c h
    unfold fX7_fund_L84 at h
    refine V_iload eX7_fund_84 4 rfl ?_
    refine V_aload_n eX7_fund_86 0 rfl ?_
    refine V_get (v := .int (c.1 10)) eX7_fund_87 inX7 0 rfl rfl 10 (Nat.le_of_ble_eq_true rfl) tw_655 rfl ?_
    refine V_icmp_gt (tgt := 124) eX7_fund_90 rfl (fun hb8 => ?_) (fun hb8 => ?_)
    · replace h := (if_pos hb8).symm.trans h
      refine V_lv (lv' := [(0, .ref (A 0)), (1, .int a1), (3, .int a3), (4, .int a4)]) [0, 1, 2, 3] rfl ?_
      exact hk c h
    · replace h := (if_neg hb8).symm.trans h
      refine V_aload_n eX7_fund_93 0 rfl ?_
      refine V_get (v := .ref (A 14)) eX7_fund_94 inX7 0 rfl rfl 22 (Nat.le_of_ble_eq_true rfl) tw_667 rfl ?_
      refine V_bipush (v := (10 : Int32)) eX7_fund_97 rfl ?_
      refine V_iload eX7_fund_99 3 rfl ?_
      refine V_imul eX7_fund_101 ?_
      refine V_iload eX7_fund_102 4 rfl ?_
      refine V_iadd eX7_fund_104 ?_
      refine V_aload_n eX7_fund_105 0 rfl ?_
      refine V_iload eX7_fund_106 4 rfl ?_
      refine V_aload_n eX7_fund_108 0 rfl ?_
      refine V_iload eX7_fund_109 3 rfl ?_
      obtain ⟨q9, hc9, h⟩ := Option.bind_eq_some_iff.mp h
      refine V_callVi (rest := [.int a5, .ref (A 0), .int (((10 : Int32) * a4) + a5), .ref (A 14)]) eX7_fund_111 (ctX7_comingIn l G A c a4 hc9) tc_914 tw_911 tw_8 tw_913 ts_38 0 rfl rfl hdX7_comingIn rfl ⟨Nat.le_of_ble_eq_true rfl, Nat.le_of_ble_eq_true rfl⟩ rfl (Nat.le_of_ble_eq_true rfl) ⟨Nat.zero_le _, Nat.zero_le _⟩ ?_
      obtain ⟨q10, hc10, h⟩ := Option.bind_eq_some_iff.mp h
      refine V_callVi (rest := [.int (((10 : Int32) * a4) + a5), .ref (A 14)]) eX7_fund_114 (ctX7_bestBy l G A c a5 q9 hc10) tc_866 tw_863 tw_8 tw_865 ts_31 0 rfl rfl hdX7_bestBy rfl ⟨Nat.le_of_ble_eq_true rfl, Nat.le_of_ble_eq_true rfl⟩ rfl (Nat.le_of_ble_eq_true rfl) ⟨Nat.zero_le _, Nat.zero_le _⟩ ?_
      obtain ⟨hi11, h⟩ := ckb_some h
      refine V_iast (w' := wM G A (sA q10.2 22 ((((10 : Int32) * a4) + a5)).toNatClampNeg q10.1)) eX7_fund_117 14 rfl hi11 rfl ?_
      refine V_iinc (v := (a5 + (1 : Int32))) (lv' := [(5, .int (a5 + (1 : Int32))), (0, .ref (A 0)), (1, .int a1), (3, .int a3), (4, .int a4)]) eX7_fund_118 4 rfl rfl (Nat.le_of_ble_eq_true rfl) rfl ?_
      refine V_goto (tgt := 84) eX7_fund_121 rfl ?_
      refine V_lv (lv' := [(0, .ref (A 0)), (1, .int a1), (3, .int a3), (4, .int a4), (5, .int (a5 + (1 : Int32)))]) [1, 2, 3, 4, 0] rfl ?_
      exact ih (a5 + (1 : Int32)) (sA q10.2 22 ((((10 : Int32) * a4) + a5)).toNatClampNeg q10.1) h
set_option maxRecDepth 20000 in
theorem ctX7_fund_L141 (l : Launch) (G : tg_G) (A : Nat → Nat) (k : Int32 → Option (Int32 × SS)) (c : SS) (a1 : Int32) (a3 : Int32) (a4 : Int32) (a5 : Int32) {z : Int32 × SS} (hk : ∀ (e6 : Int32), k e6 = some z → V l G (tg_Zm G (fun v w1 => v = some (.int z.1) ∧ w1 = wM G A z.2) 0 0) tg_E0 (tg_R 4 96) "TramGodModel" "fund" cX7_fund 9 (some .int) 213 [(0, .ref (A 0)), (1, .int a1), (3, .int a3), (4, .int a4), (5, .int a5), (6, .int e6)] [] (wM G A c) 0 0) : ∀ (n : Nat) (a6 : Int32) (a7 : Int32), fX7_fund_L141 k c a1 a3 a4 a5 n a6 a7 = some z → V l G (tg_Zm G (fun v w1 => v = some (.int z.1) ∧ w1 = wM G A z.2) 0 0) tg_E0 (tg_R 4 96) "TramGodModel" "fund" cX7_fund 9 (some .int) 141 [(0, .ref (A 0)), (1, .int a1), (3, .int a3), (4, .int a4), (5, .int a5), (6, .int a6), (7, .int a7)] [] (wM G A c) 0 0 := by
  intro n
  induction n with
  | zero => intro a6 a7 h; exact absurd h (by simp [fX7_fund_L141])
  | succ n ih =>
    intro a6 a7 h
    unfold fX7_fund_L141 at h
    refine V_iload eX7_fund_141 6 rfl ?_
    refine V_aload_n eX7_fund_143 0 rfl ?_
    refine V_get (v := .int (c.1 10)) eX7_fund_144 inX7 0 rfl rfl 10 (Nat.le_of_ble_eq_true rfl) tw_655 rfl ?_
    refine V_icmp_gt (tgt := 213) eX7_fund_147 rfl (fun hb14 => ?_) (fun hb14 => ?_)
    · replace h := (if_pos hb14).symm.trans h
      refine V_lv (lv' := [(0, .ref (A 0)), (1, .int a1), (3, .int a3), (4, .int a4), (5, .int a5), (6, .int a6)]) [0, 1, 2, 3, 4, 5] rfl ?_
      exact hk a6 h
    · replace h := (if_neg hb14).symm.trans h
      refine V_iload eX7_fund_150 6 rfl ?_
      refine V_iload eX7_fund_152 4 rfl ?_
      refine V_icmp_gt (tgt := 213) eX7_fund_154 rfl (fun hb15 => ?_) (fun hb15 => ?_)
      · replace h := (if_pos hb15).symm.trans h
        refine V_lv (lv' := [(0, .ref (A 0)), (1, .int a1), (3, .int a3), (4, .int a4), (5, .int a5), (6, .int a6)]) [0, 1, 2, 3, 4, 5] rfl ?_
        exact hk a6 h
      · replace h := (if_neg hb15).symm.trans h
        refine V_aload_n eX7_fund_157 0 rfl ?_
        refine V_get (v := .ref (A 14)) eX7_fund_158 inX7 0 rfl rfl 22 (Nat.le_of_ble_eq_true rfl) tw_667 rfl ?_
        refine V_bipush (v := (10 : Int32)) eX7_fund_161 rfl ?_
        refine V_iload eX7_fund_163 3 rfl ?_
        refine V_imul eX7_fund_165 ?_
        refine V_iload eX7_fund_166 6 rfl ?_
        refine V_iadd eX7_fund_168 ?_
        obtain ⟨v16, hi16, ev16, h⟩ := ald_some h
        refine V_ialdv eX7_fund_169 14 rfl hi16 ev16 ?_
        refine V_aload_n eX7_fund_170 0 rfl ?_
        refine V_get (v := .ref (A 15)) eX7_fund_171 inX7 0 rfl rfl 23 (Nat.le_of_ble_eq_true rfl) tw_668 rfl ?_
        refine V_bipush (v := (41 : Int32)) eX7_fund_174 rfl ?_
        refine V_iload eX7_fund_176 3 rfl ?_
        refine V_iconst (v := (1 : Int32)) eX7_fund_178 rfl ?_
        refine V_iadd eX7_fund_179 ?_
        refine V_imul eX7_fund_180 ?_
        refine V_iload eX7_fund_181 4 rfl ?_
        refine V_iadd eX7_fund_183 ?_
        refine V_iload eX7_fund_184 6 rfl ?_
        refine V_isub eX7_fund_186 ?_
        obtain ⟨v17, hi17, ev17, h⟩ := ald_some h
        refine V_ialdv eX7_fund_187 15 rfl hi17 ev17 ?_
        refine V_iadd eX7_fund_188 ?_
        refine V_istore (lv' := [(8, .int (v16 + v17)), (0, .ref (A 0)), (1, .int a1), (3, .int a3), (4, .int a4), (5, .int a5), (6, .int a6), (7, .int a7)]) eX7_fund_189 (Nat.le_of_ble_eq_true rfl) rfl ?_
        refine V_iload eX7_fund_191 0 rfl ?_
        refine V_iload eX7_fund_193 6 rfl ?_
        refine jn_elim h (fun j => ∀ (x18 : Int32), j x18 = some z → V l G (tg_Zm G (fun v w1 => v = some (.int z.1) ∧ w1 = wM G A z.2) 0 0) tg_E0 (tg_R 4 96) "TramGodModel" "fund" cX7_fund 9 (some .int) 205 [(0, .ref (A 0)), (1, .int a1), (3, .int a3), (4, .int a4), (5, .int a5), (7, .int a7)] [.int x18] (wM G A c) 0 0) ?_ (fun j205 hj205 h => ?_)
        · intro x18 h
          refine V_istore (lv' := [(6, .int x18), (0, .ref (A 0)), (1, .int a1), (3, .int a3), (4, .int a4), (5, .int a5), (7, .int a7)]) eX7_fund_205 (Nat.le_of_ble_eq_true rfl) rfl ?_
          refine V_iinc (v := (a7 + (1 : Int32))) (lv' := [(7, .int (a7 + (1 : Int32))), (6, .int x18), (0, .ref (A 0)), (1, .int a1), (3, .int a3), (4, .int a4), (5, .int a5)]) eX7_fund_207 6 rfl rfl (Nat.le_of_ble_eq_true rfl) rfl ?_
          refine V_goto (tgt := 141) eX7_fund_210 rfl ?_
          refine V_lv (lv' := [(0, .ref (A 0)), (1, .int a1), (3, .int a3), (4, .int a4), (5, .int a5), (6, .int x18), (7, .int (a7 + (1 : Int32)))]) [2, 3, 4, 5, 6, 1, 0] rfl ?_
          exact ih x18 (a7 + (1 : Int32)) h
        refine V_icmp_le (tgt := 203) eX7_fund_195 rfl (fun hb19 => ?_) (fun hb19 => ?_)
        · replace h := (if_pos hb19).symm.trans h
          refine V_iload eX7_fund_203 6 rfl ?_
          refine V_lv (lv' := [(0, .ref (A 0)), (1, .int a1), (3, .int a3), (4, .int a4), (5, .int a5), (7, .int a7)]) [1, 2, 3, 4, 5, 7] rfl ?_
          exact hj205 a6 h
        · replace h := (if_neg hb19).symm.trans h
          refine V_iload eX7_fund_198 0 rfl ?_
          refine V_goto (tgt := 205) eX7_fund_200 rfl ?_
          refine V_lv (lv' := [(0, .ref (A 0)), (1, .int a1), (3, .int a3), (4, .int a4), (5, .int a5), (7, .int a7)]) [1, 2, 3, 4, 5, 7] rfl ?_
          exact hj205 (v16 + v17) h
set_option maxRecDepth 20000 in
theorem ctX7_fund_L127 (l : Launch) (G : tg_G) (A : Nat → Nat) (k : SS → Option (Int32 × SS)) (a1 : Int32) (a3 : Int32) (a4 : Int32) {z : Int32 × SS} (hk : ∀ (ec : SS), k ec = some z → V l G (tg_Zm G (fun v w1 => v = some (.int z.1) ∧ w1 = wM G A z.2) 0 0) tg_E0 (tg_R 4 96) "TramGodModel" "fund" cX7_fund 9 (some .int) 234 [(0, .ref (A 0)), (1, .int a1), (3, .int a3), (4, .int a4)] [] (wM G A ec) 0 0) : ∀ (n : Nat) (a5 : Int32) (c : SS), fX7_fund_L127 k a1 a3 a4 n a5 c = some z → V l G (tg_Zm G (fun v w1 => v = some (.int z.1) ∧ w1 = wM G A z.2) 0 0) tg_E0 (tg_R 4 96) "TramGodModel" "fund" cX7_fund 9 (some .int) 127 [(0, .ref (A 0)), (1, .int a1), (3, .int a3), (4, .int a4), (5, .int a5)] [] (wM G A c) 0 0 := by
  intro n
  induction n with
  | zero => intro a5 c h; exact absurd h (by simp [fX7_fund_L127])
  | succ n ih =>
    intro a5 c h
    unfold fX7_fund_L127 at h
    refine V_iload eX7_fund_127 4 rfl ?_
    refine V_bipush (v := (40 : Int32)) eX7_fund_129 rfl ?_
    refine V_icmp_gt (tgt := 234) eX7_fund_131 rfl (fun hb13 => ?_) (fun hb13 => ?_)
    · replace h := (if_pos hb13).symm.trans h
      refine V_lv (lv' := [(0, .ref (A 0)), (1, .int a1), (3, .int a3), (4, .int a4)]) [0, 1, 2, 3] rfl ?_
      exact hk c h
    · replace h := (if_neg hb13).symm.trans h
      refine V_ldc eX7_fund_134 tw_871 ?_
      refine V_istore (lv' := [(6, .int (-1000000 : Int32)), (0, .ref (A 0)), (1, .int a1), (3, .int a3), (4, .int a4), (5, .int a5)]) eX7_fund_136 (Nat.le_of_ble_eq_true rfl) rfl ?_
      refine V_iconst (v := (0 : Int32)) eX7_fund_138 rfl ?_
      refine V_istore (lv' := [(7, .int (0 : Int32)), (6, .int (-1000000 : Int32)), (0, .ref (A 0)), (1, .int a1), (3, .int a3), (4, .int a4), (5, .int a5)]) eX7_fund_139 (Nat.le_of_ble_eq_true rfl) rfl ?_
      refine V_lv (lv' := [(0, .ref (A 0)), (1, .int a1), (3, .int a3), (4, .int a4), (5, .int a5), (6, .int (-1000000 : Int32)), (7, .int (0 : Int32))]) [2, 3, 4, 5, 6, 1, 0] rfl ?_
      refine ctX7_fund_L141 l G A _ c a1 a3 a4 a5 ?_ fu (-1000000 : Int32) (0 : Int32) h
      · intro x20 h
        refine V_aload_n eX7_fund_213 0 rfl ?_
        refine V_get (v := .ref (A 15)) eX7_fund_214 inX7 0 rfl rfl 23 (Nat.le_of_ble_eq_true rfl) tw_668 rfl ?_
        refine V_bipush (v := (41 : Int32)) eX7_fund_217 rfl ?_
        refine V_iload eX7_fund_219 3 rfl ?_
        refine V_imul eX7_fund_221 ?_
        refine V_iload eX7_fund_222 4 rfl ?_
        refine V_iadd eX7_fund_224 ?_
        refine V_iload eX7_fund_225 5 rfl ?_
        obtain ⟨hi21, h⟩ := ckb_some h
        refine V_iast (w' := wM G A (sA c 23 ((((41 : Int32) * a4) + a5)).toNatClampNeg x20)) eX7_fund_227 15 rfl hi21 rfl ?_
        refine V_iinc (v := (a5 + (1 : Int32))) (lv' := [(5, .int (a5 + (1 : Int32))), (0, .ref (A 0)), (1, .int a1), (3, .int a3), (4, .int a4), (6, .int x20)]) eX7_fund_228 4 rfl rfl (Nat.le_of_ble_eq_true rfl) rfl ?_
        refine V_goto (tgt := 127) eX7_fund_231 rfl ?_
        refine V_lv (lv' := [(0, .ref (A 0)), (1, .int a1), (3, .int a3), (4, .int a4), (5, .int (a5 + (1 : Int32)))]) [1, 2, 3, 4, 0] rfl ?_
        exact ih (a5 + (1 : Int32)) (sA c 23 ((((41 : Int32) * a4) + a5)).toNatClampNeg x20) h
set_option maxRecDepth 20000 in
theorem ctX7_fund_L76 (l : Launch) (G : tg_G) (A : Nat → Nat) (k : SS → Option (Int32 × SS)) (a1 : Int32) (a3 : Int32) {z : Int32 × SS} (hk : ∀ (ec : SS), k ec = some z → V l G (tg_Zm G (fun v w1 => v = some (.int z.1) ∧ w1 = wM G A z.2) 0 0) tg_E0 (tg_R 4 96) "TramGodModel" "fund" cX7_fund 9 (some .int) 240 [(0, .ref (A 0)), (1, .int a1), (3, .int a3)] [] (wM G A ec) 0 0) : ∀ (n : Nat) (a4 : Int32) (c : SS), fX7_fund_L76 k a1 a3 n a4 c = some z → V l G (tg_Zm G (fun v w1 => v = some (.int z.1) ∧ w1 = wM G A z.2) 0 0) tg_E0 (tg_R 4 96) "TramGodModel" "fund" cX7_fund 9 (some .int) 76 [(0, .ref (A 0)), (1, .int a1), (3, .int a3), (4, .int a4)] [] (wM G A c) 0 0 := by
  intro n
  induction n with
  | zero => intro a4 c h; exact absurd h (by simp [fX7_fund_L76])
  | succ n ih =>
    intro a4 c h
    unfold fX7_fund_L76 at h
    refine V_iload eX7_fund_76 3 rfl ?_
    refine V_if_lt (tgt := 240) eX7_fund_78 rfl (fun hb7 => ?_) (fun hb7 => ?_)
    · replace h := (if_pos hb7).symm.trans h
      refine V_lv (lv' := [(0, .ref (A 0)), (1, .int a1), (3, .int a3)]) [0, 1, 2] rfl ?_
      exact hk c h
    · replace h := (if_neg hb7).symm.trans h
      refine V_iconst (v := (0 : Int32)) eX7_fund_81 rfl ?_
      refine V_istore (lv' := [(5, .int (0 : Int32)), (0, .ref (A 0)), (1, .int a1), (3, .int a3), (4, .int a4)]) eX7_fund_82 (Nat.le_of_ble_eq_true rfl) rfl ?_
      refine V_lv (lv' := [(0, .ref (A 0)), (1, .int a1), (3, .int a3), (4, .int a4), (5, .int (0 : Int32))]) [1, 2, 3, 4, 0] rfl ?_
      refine ctX7_fund_L84 l G A _ a1 a3 a4 ?_ fu (0 : Int32) c h
      · intro c12 h
        refine V_iconst (v := (0 : Int32)) eX7_fund_124 rfl ?_
        refine V_istore (lv' := [(5, .int (0 : Int32)), (0, .ref (A 0)), (1, .int a1), (3, .int a3), (4, .int a4)]) eX7_fund_125 (Nat.le_of_ble_eq_true rfl) rfl ?_
        refine V_lv (lv' := [(0, .ref (A 0)), (1, .int a1), (3, .int a3), (4, .int a4), (5, .int (0 : Int32))]) [1, 2, 3, 4, 0] rfl ?_
        refine ctX7_fund_L127 l G A _ a1 a3 a4 ?_ fu (0 : Int32) c12 h
        · intro c22 h
          refine V_iinc (v := (a4 + (-1 : Int32))) (lv' := [(4, .int (a4 + (-1 : Int32))), (0, .ref (A 0)), (1, .int a1), (3, .int a3)]) eX7_fund_234 3 rfl rfl (Nat.le_of_ble_eq_true rfl) rfl ?_
          refine V_goto (tgt := 76) eX7_fund_237 rfl ?_
          refine V_lv (lv' := [(0, .ref (A 0)), (1, .int a1), (3, .int a3), (4, .int (a4 + (-1 : Int32)))]) [1, 2, 3, 0] rfl ?_
          exact ih (a4 + (-1 : Int32)) c22 h
set_option maxRecDepth 20000 in
theorem ctX7_fund_L274 (l : Launch) (G : tg_G) (A : Nat → Nat) (k : Int32 → Option (Int32 × SS)) (c : SS) (a3 : Int32) (a4 : Int32) (a6 : Int32) {z : Int32 × SS} (hk : ∀ (e5 : Int32), k e5 = some z → V l G (tg_Zm G (fun v w1 => v = some (.int z.1) ∧ w1 = wM G A z.2) 0 0) tg_E0 (tg_R 4 96) "TramGodModel" "fund" cX7_fund 9 (some .int) 328 [(0, .ref (A 0)), (3, .int a3), (4, .int a4), (5, .int e5), (6, .int a6)] [] (wM G A c) 0 0) : ∀ (n : Nat) (a5 : Int32), fX7_fund_L274 k c a3 a4 a6 n a5 = some z → V l G (tg_Zm G (fun v w1 => v = some (.int z.1) ∧ w1 = wM G A z.2) 0 0) tg_E0 (tg_R 4 96) "TramGodModel" "fund" cX7_fund 9 (some .int) 274 [(0, .ref (A 0)), (3, .int a3), (4, .int a4), (5, .int a5), (6, .int a6)] [] (wM G A c) 0 0 := by
  intro n
  induction n with
  | zero => intro a5 h; exact absurd h (by simp [fX7_fund_L274])
  | succ n ih =>
    intro a5 h
    unfold fX7_fund_L274 at h
    refine V_aload_n eX7_fund_274 0 rfl ?_
    refine V_get (v := .ref (A 14)) eX7_fund_275 inX7 0 rfl rfl 22 (Nat.le_of_ble_eq_true rfl) tw_667 rfl ?_
    refine V_bipush (v := (10 : Int32)) eX7_fund_278 rfl ?_
    refine V_iload eX7_fund_280 4 rfl ?_
    refine V_imul eX7_fund_282 ?_
    refine V_iload eX7_fund_283 3 rfl ?_
    refine V_iadd eX7_fund_285 ?_
    obtain ⟨v26, hi26, ev26, h⟩ := ald_some h
    refine V_ialdv eX7_fund_286 14 rfl hi26 ev26 ?_
    refine V_aload_n eX7_fund_287 0 rfl ?_
    refine V_get (v := .ref (A 15)) eX7_fund_288 inX7 0 rfl rfl 23 (Nat.le_of_ble_eq_true rfl) tw_668 rfl ?_
    refine V_bipush (v := (41 : Int32)) eX7_fund_291 rfl ?_
    refine V_iload eX7_fund_293 4 rfl ?_
    refine V_iconst (v := (1 : Int32)) eX7_fund_295 rfl ?_
    refine V_iadd eX7_fund_296 ?_
    refine V_imul eX7_fund_297 ?_
    refine V_iload eX7_fund_298 2 rfl ?_
    refine V_iadd eX7_fund_300 ?_
    refine V_iload eX7_fund_301 3 rfl ?_
    refine V_isub eX7_fund_303 ?_
    obtain ⟨v27, hi27, ev27, h⟩ := ald_some h
    refine V_ialdv eX7_fund_304 15 rfl hi27 ev27 ?_
    refine V_iadd eX7_fund_305 ?_
    refine V_aload_n eX7_fund_306 0 rfl ?_
    refine V_get (v := .ref (A 15)) eX7_fund_307 inX7 0 rfl rfl 23 (Nat.le_of_ble_eq_true rfl) tw_668 rfl ?_
    refine V_bipush (v := (41 : Int32)) eX7_fund_310 rfl ?_
    refine V_iload eX7_fund_312 4 rfl ?_
    refine V_imul eX7_fund_314 ?_
    refine V_iload eX7_fund_315 2 rfl ?_
    refine V_iadd eX7_fund_317 ?_
    obtain ⟨v28, hi28, ev28, h⟩ := ald_some h
    refine V_ialdv eX7_fund_318 15 rfl hi28 ev28 ?_
    refine V_icmp_eq (tgt := 328) eX7_fund_319 rfl (fun hb29 => ?_) (fun hb29 => ?_)
    · replace h := (if_pos hb29).symm.trans h
      exact hk a5 h
    · replace h := (if_neg hb29).symm.trans h
      refine V_iinc (v := (a5 + (1 : Int32))) (lv' := [(5, .int (a5 + (1 : Int32))), (0, .ref (A 0)), (3, .int a3), (4, .int a4), (6, .int a6)]) eX7_fund_322 3 rfl rfl (Nat.le_of_ble_eq_true rfl) rfl ?_
      refine V_goto (tgt := 274) eX7_fund_325 rfl ?_
      refine V_lv (lv' := [(0, .ref (A 0)), (3, .int a3), (4, .int a4), (5, .int (a5 + (1 : Int32))), (6, .int a6)]) [1, 2, 3, 0, 4] rfl ?_
      exact ih (a5 + (1 : Int32)) h
set_option maxRecDepth 20000 in
theorem ctX7_fund_L265 (l : Launch) (G : tg_G) (A : Nat → Nat)  (c : SS) (a3 : Int32) {z : Int32 × SS}  : ∀ (n : Nat) (a4 : Int32) (a5 : Int32) (a6 : Int32), fX7_fund_L265 c a3 n a4 a5 a6 = some z → V l G (tg_Zm G (fun v w1 => v = some (.int z.1) ∧ w1 = wM G A z.2) 0 0) tg_E0 (tg_R 4 96) "TramGodModel" "fund" cX7_fund 9 (some .int) 265 [(0, .ref (A 0)), (3, .int a3), (4, .int a4), (5, .int a5), (6, .int a6)] [] (wM G A c) 0 0 := by
  intro n
  induction n with
  | zero => intro a4 a5 a6 h; exact absurd h (by simp [fX7_fund_L265])
  | succ n ih =>
    intro a4 a5 a6 h
    unfold fX7_fund_L265 at h
    refine V_iload eX7_fund_265 4 rfl ?_
    refine V_iload_n eX7_fund_267 1 rfl ?_
    refine V_icmp_gt (tgt := 341) eX7_fund_268 rfl (fun hb25 => ?_) (fun hb25 => ?_)
    · replace h := (if_pos hb25).symm.trans h
      refine V_iload eX7_fund_341 3 rfl ?_
      obtain rfl := Option.some.inj h
      exact V_ret eX7_fund_343 rfl ⟨rfl, rfl⟩
    · replace h := (if_neg hb25).symm.trans h
      refine V_iconst (v := (0 : Int32)) eX7_fund_271 rfl ?_
      refine V_istore (lv' := [(5, .int (0 : Int32)), (0, .ref (A 0)), (3, .int a3), (4, .int a4), (6, .int a6)]) eX7_fund_272 (Nat.le_of_ble_eq_true rfl) rfl ?_
      refine V_lv (lv' := [(0, .ref (A 0)), (3, .int a3), (4, .int a4), (5, .int (0 : Int32)), (6, .int a6)]) [1, 2, 3, 0, 4] rfl ?_
      refine ctX7_fund_L274 l G A _ c a3 a4 a6 ?_ fu (0 : Int32) h
      · intro x30 h
        refine V_iload eX7_fund_328 2 rfl ?_
        refine V_iload eX7_fund_330 3 rfl ?_
        refine V_isub eX7_fund_332 ?_
        refine V_istore (lv' := [(4, .int (a4 - x30)), (0, .ref (A 0)), (3, .int a3), (5, .int x30), (6, .int a6)]) eX7_fund_333 (Nat.le_of_ble_eq_true rfl) rfl ?_
        refine V_iinc (v := (a6 + (1 : Int32))) (lv' := [(6, .int (a6 + (1 : Int32))), (4, .int (a4 - x30)), (0, .ref (A 0)), (3, .int a3), (5, .int x30)]) eX7_fund_335 4 rfl rfl (Nat.le_of_ble_eq_true rfl) rfl ?_
        refine V_goto (tgt := 265) eX7_fund_338 rfl ?_
        refine V_lv (lv' := [(0, .ref (A 0)), (3, .int a3), (4, .int (a4 - x30)), (5, .int x30), (6, .int (a6 + (1 : Int32)))]) [2, 3, 1, 4, 0] rfl ?_
        exact ih (a4 - x30) x30 (a6 + (1 : Int32)) h
set_option maxRecDepth 20000 in
theorem ctX7_fund (l : Launch) (G : tg_G) (A : Nat → Nat) (c : SS) (p1 : Int32) (p2 : Int32) (p3 : Int32) {z : Int32 × SS} (h : fX7_fund c p1 p2 p3 = some z) : Mt l G yX7_fund cX7_fund 9 (some .int) (tg_R 4 96) [.ref (A 0), .int p1, .int p2, .int p3] (wM G A c) (fun v w1 => v = some (.int z.1) ∧ w1 = wM G A z.2) := by
  refine Mt_of2 (own := "TramGodModel") (nm := "fund") rfl rfl rfl (Nat.le_of_ble_eq_true rfl) (lv := [(0, .ref (A 0)), (1, .int p1), (2, .int p2), (3, .int p3)]) rfl ?_
  unfold fX7_fund at h
  refine V_iload_n eX7_fund_0 1 rfl ?_
  refine V_i2l eX7_fund_1 ?_
  refine V_lconst (v := (0 : Int64)) eX7_fund_2 rfl ?_
  refine V_ldc2 eX7_fund_3 tw_909 ?_
  refine V_callSi (rest := []) eX7_fund_6 (ctX7_in l G _ (p1).toInt64 (0 : Int64) (40 : Int64) rfl) tc_748 tw_746 tw_8 tw_747 hdX7_in rfl ⟨Nat.le_of_ble_eq_true rfl, Nat.le_of_ble_eq_true rfl⟩ rfl (Nat.le_of_ble_eq_true rfl) ⟨Nat.zero_le _, Nat.zero_le _⟩ ?_
  refine V_if_eq (tgt := 39) eX7_fund_9 rfl (fun hb1 => ?_) (fun hb1 => ?_)
  · replace h := (if_pos hb1).symm.trans h
    refine V_bipush (v := (-2 : Int32)) eX7_fund_39 rfl ?_
    obtain rfl := Option.some.inj h
    exact V_ret eX7_fund_41 rfl ⟨rfl, rfl⟩
  · replace h := (if_neg hb1).symm.trans h
    refine V_iload_n eX7_fund_12 2 rfl ?_
    refine V_i2l eX7_fund_13 ?_
    refine V_lconst (v := (1 : Int64)) eX7_fund_14 rfl ?_
    refine V_ldc2 eX7_fund_15 tw_779 ?_
    refine V_callSi (rest := []) eX7_fund_18 (ctX7_in l G _ (p2).toInt64 (1 : Int64) (7 : Int64) rfl) tc_748 tw_746 tw_8 tw_747 hdX7_in rfl ⟨Nat.le_of_ble_eq_true rfl, Nat.le_of_ble_eq_true rfl⟩ rfl (Nat.le_of_ble_eq_true rfl) ⟨Nat.zero_le _, Nat.zero_le _⟩ ?_
    refine V_if_eq (tgt := 39) eX7_fund_21 rfl (fun hb2 => ?_) (fun hb2 => ?_)
    · replace h := (if_pos hb2).symm.trans h
      refine V_bipush (v := (-2 : Int32)) eX7_fund_39 rfl ?_
      obtain rfl := Option.some.inj h
      exact V_ret eX7_fund_41 rfl ⟨rfl, rfl⟩
    · replace h := (if_neg hb2).symm.trans h
      refine V_iload_n eX7_fund_24 3 rfl ?_
      refine V_i2l eX7_fund_25 ?_
      refine V_ldc2 eX7_fund_26 tw_910 ?_
      refine V_iload_n eX7_fund_29 2 rfl ?_
      refine V_iconst (v := (1 : Int32)) eX7_fund_30 rfl ?_
      refine V_isub eX7_fund_31 ?_
      refine V_i2l eX7_fund_32 ?_
      refine V_callSi (rest := []) eX7_fund_33 (ctX7_in l G _ (p3).toInt64 (-1 : Int64) ((p2 - (1 : Int32))).toInt64 rfl) tc_748 tw_746 tw_8 tw_747 hdX7_in rfl ⟨Nat.le_of_ble_eq_true rfl, Nat.le_of_ble_eq_true rfl⟩ rfl (Nat.le_of_ble_eq_true rfl) ⟨Nat.zero_le _, Nat.zero_le _⟩ ?_
      refine V_if_ne (tgt := 42) eX7_fund_36 rfl (fun hb3 => ?_) (fun hb3 => ?_)
      · replace h := (if_neg hb3).symm.trans h
        refine V_iconst (v := (0 : Int32)) eX7_fund_42 rfl ?_
        refine V_istore (lv' := [(4, .int (0 : Int32)), (0, .ref (A 0)), (1, .int p1), (2, .int p2), (3, .int p3)]) eX7_fund_43 (Nat.le_of_ble_eq_true rfl) rfl ?_
        refine V_lv (lv' := [(0, .ref (A 0)), (1, .int p1), (2, .int p2), (3, .int p3), (4, .int (0 : Int32))]) [1, 2, 3, 4, 0] rfl ?_
        refine ctX7_fund_L45 l G A _ p1 p2 p3 ?_ fu (0 : Int32) c h
        · intro c6 h
          refine V_iload_n eX7_fund_71 2 rfl ?_
          refine V_iconst (v := (1 : Int32)) eX7_fund_72 rfl ?_
          refine V_isub eX7_fund_73 ?_
          refine V_istore (lv' := [(4, .int (p2 - (1 : Int32))), (0, .ref (A 0)), (1, .int p1), (2, .int p2), (3, .int p3)]) eX7_fund_74 (Nat.le_of_ble_eq_true rfl) rfl ?_
          refine V_lv (lv' := [(0, .ref (A 0)), (1, .int p1), (3, .int p3), (4, .int (p2 - (1 : Int32)))]) [1, 2, 4, 0] rfl ?_
          refine ctX7_fund_L76 l G A _ p1 p3 ?_ fu (p2 - (1 : Int32)) c6 h
          · intro c23 h
            refine V_iload_n eX7_fund_240 2 rfl ?_
            refine V_iconst (v := (-1 : Int32)) eX7_fund_241 rfl ?_
            refine V_icmp_ne (tgt := 256) eX7_fund_242 rfl (fun hb24 => ?_) (fun hb24 => ?_)
            · replace h := (if_neg hb24).symm.trans h
              refine V_iload_n eX7_fund_256 1 rfl ?_
              refine V_istore (lv' := [(4, .int p1), (0, .ref (A 0)), (1, .int p1), (3, .int p3)]) eX7_fund_257 (Nat.le_of_ble_eq_true rfl) rfl ?_
              refine V_iconst (v := (0 : Int32)) eX7_fund_259 rfl ?_
              refine V_istore (lv' := [(5, .int (0 : Int32)), (4, .int p1), (0, .ref (A 0)), (1, .int p1), (3, .int p3)]) eX7_fund_260 (Nat.le_of_ble_eq_true rfl) rfl ?_
              refine V_iconst (v := (0 : Int32)) eX7_fund_262 rfl ?_
              refine V_istore (lv' := [(6, .int (0 : Int32)), (5, .int (0 : Int32)), (4, .int p1), (0, .ref (A 0)), (1, .int p1), (3, .int p3)]) eX7_fund_263 (Nat.le_of_ble_eq_true rfl) rfl ?_
              refine V_lv (lv' := [(0, .ref (A 0)), (3, .int p3), (4, .int p1), (5, .int (0 : Int32)), (6, .int (0 : Int32))]) [3, 5, 2, 1, 0] rfl ?_
              refine ctX7_fund_L265 l G A c23 p3 fu p1 (0 : Int32) (0 : Int32) h
            · replace h := (if_pos hb24).symm.trans h
              refine V_sipush (v := (10000 : Int32)) eX7_fund_245 rfl ?_
              refine V_aload_n eX7_fund_248 0 rfl ?_
              refine V_get (v := .ref (A 15)) eX7_fund_249 inX7 0 rfl rfl 23 (Nat.le_of_ble_eq_true rfl) tw_668 rfl ?_
              refine V_iload_n eX7_fund_252 1 rfl ?_
              obtain ⟨v31, hi31, ev31, h⟩ := ald_some h
              refine V_ialdv eX7_fund_253 15 rfl hi31 ev31 ?_
              refine V_iadd eX7_fund_254 ?_
              obtain rfl := Option.some.inj h
              exact V_ret eX7_fund_255 rfl ⟨rfl, rfl⟩
      · replace h := (if_pos hb3).symm.trans h
        refine V_bipush (v := (-2 : Int32)) eX7_fund_39 rfl ?_
        obtain rfl := Option.some.inj h
        exact V_ret eX7_fund_41 rfl ⟨rfl, rfl⟩
theorem hdX7_power : yX7_power.cls ≠ "java/lang/invoke/MethodHandle" ∧ yX7_power.cls ≠ "java/lang/invoke/VarHandle" ∧ (parseMethodDescriptor yX7_power.desc).map (fun d => d.parameters.length) = some 1 := by decide +kernel
theorem eX7_power_0 : Dc cX7_power 0 (.iconst 1) 1 1 := ⟨by decide +kernel, rfl⟩
theorem eX7_power_1 : Dc cX7_power 1 (.istore_n 1) 1 2 := ⟨by decide +kernel, rfl⟩
theorem eX7_power_2 : Dc cX7_power 2 (.iconst 0) 1 3 := ⟨by decide +kernel, rfl⟩
theorem eX7_power_3 : Dc cX7_power 3 (.istore_n 2) 1 4 := ⟨by decide +kernel, rfl⟩
theorem eX7_power_4 : Dc cX7_power 4 (.iload_n 2) 1 5 := ⟨by decide +kernel, rfl⟩
theorem eX7_power_5 : Dc cX7_power 5 (.iload_n 0) 1 6 := ⟨by decide +kernel, rfl⟩
theorem eX7_power_6 : Dc cX7_power 6 (.if_icmp .ge 14) 3 9 := ⟨by decide +kernel, rfl⟩
theorem eX7_power_9 : Dc cX7_power 9 (.iload_n 1) 1 10 := ⟨by decide +kernel, rfl⟩
theorem eX7_power_10 : Dc cX7_power 10 (.bipush 6) 2 12 := ⟨by decide +kernel, rfl⟩
theorem eX7_power_12 : Dc cX7_power 12 (.imul) 1 13 := ⟨by decide +kernel, rfl⟩
theorem eX7_power_13 : Dc cX7_power 13 (.istore_n 1) 1 14 := ⟨by decide +kernel, rfl⟩
theorem eX7_power_14 : Dc cX7_power 14 (.iinc 2 1) 3 17 := ⟨by decide +kernel, rfl⟩
theorem eX7_power_17 : Dc cX7_power 17 (.goto (-13)) 3 20 := ⟨by decide +kernel, rfl⟩
theorem eX7_power_20 : Dc cX7_power 20 (.iload_n 1) 1 21 := ⟨by decide +kernel, rfl⟩
theorem eX7_power_21 : Dc cX7_power 21 (.ireturn) 1 22 := ⟨by decide +kernel, rfl⟩
def fX7_power_L4  (a0 : Int32) : Nat → Int32 → Int32 → Option (Int32)
  | 0, _, _ => none
  | n + 1, a1, a2 => if a0 ≤ a2 then some a1 else fX7_power_L4 a0 n (a1 * (6 : Int32)) (a2 + (1 : Int32))
def fX7_power (p0 : Int32) : Option (Int32) := fX7_power_L4 p0 fu (1 : Int32) (0 : Int32)
set_option maxRecDepth 20000 in
theorem ctX7_power_L4 (l : Launch) (G : tg_G) (w : va_W)  (a0 : Int32) {z : Int32}  : ∀ (n : Nat) (a1 : Int32) (a2 : Int32), fX7_power_L4 a0 n a1 a2 = some z → V l G (tg_Zm G (fun v w1 => v = some (.int z) ∧ w1 = w) 0 0) tg_E0 (tg_R 0 0) "TramGodModel" "power" cX7_power 3 (some .int) 4 [(0, .int a0), (1, .int a1), (2, .int a2)] [] (w) 0 0 := by
  intro n
  induction n with
  | zero => intro a1 a2 h; exact absurd h (by simp [fX7_power_L4])
  | succ n ih =>
    intro a1 a2 h
    unfold fX7_power_L4 at h
    refine V_iload_n eX7_power_4 2 rfl ?_
    refine V_iload_n eX7_power_5 0 rfl ?_
    refine V_icmp_ge (tgt := 20) eX7_power_6 rfl (fun hb1 => ?_) (fun hb1 => ?_)
    · replace h := (if_pos hb1).symm.trans h
      refine V_iload_n eX7_power_20 1 rfl ?_
      obtain rfl := Option.some.inj h
      exact V_ret eX7_power_21 rfl ⟨rfl, rfl⟩
    · replace h := (if_neg hb1).symm.trans h
      refine V_iload_n eX7_power_9 1 rfl ?_
      refine V_bipush (v := (6 : Int32)) eX7_power_10 rfl ?_
      refine V_imul eX7_power_12 ?_
      refine V_istore_n (lv' := [(1, .int (a1 * (6 : Int32))), (0, .int a0), (2, .int a2)]) eX7_power_13 (Nat.le_of_ble_eq_true rfl) rfl ?_
      refine V_iinc (v := (a2 + (1 : Int32))) (lv' := [(2, .int (a2 + (1 : Int32))), (1, .int (a1 * (6 : Int32))), (0, .int a0)]) eX7_power_14 2 rfl rfl (Nat.le_of_ble_eq_true rfl) rfl ?_
      refine V_goto (tgt := 4) eX7_power_17 rfl ?_
      refine V_lv (lv' := [(0, .int a0), (1, .int (a1 * (6 : Int32))), (2, .int (a2 + (1 : Int32)))]) [2, 1, 0] rfl ?_
      exact ih (a1 * (6 : Int32)) (a2 + (1 : Int32)) h
set_option maxRecDepth 20000 in
theorem ctX7_power (l : Launch) (G : tg_G) (w : va_W) (p0 : Int32) {z : Int32} (h : fX7_power p0 = some z) : Mt l G yX7_power cX7_power 3 (some .int) (tg_R 0 0) [.int p0] (w) (fun v w1 => v = some (.int z) ∧ w1 = w) := by
  refine Mt_of2 (own := "TramGodModel") (nm := "power") rfl rfl rfl (Nat.le_of_ble_eq_true rfl) (lv := [(0, .int p0)]) rfl ?_
  unfold fX7_power at h
  refine V_iconst (v := (1 : Int32)) eX7_power_0 rfl ?_
  refine V_istore_n (lv' := [(1, .int (1 : Int32)), (0, .int p0)]) eX7_power_1 (Nat.le_of_ble_eq_true rfl) rfl ?_
  refine V_iconst (v := (0 : Int32)) eX7_power_2 rfl ?_
  refine V_istore_n (lv' := [(2, .int (0 : Int32)), (1, .int (1 : Int32)), (0, .int p0)]) eX7_power_3 (Nat.le_of_ble_eq_true rfl) rfl ?_
  refine V_lv (lv' := [(0, .int p0), (1, .int (1 : Int32)), (2, .int (0 : Int32))]) [2, 1, 0] rfl ?_
  refine ctX7_power_L4 l G _ p0 fu (1 : Int32) (0 : Int32) h
theorem hdX7_layNumber : yX7_layNumber.cls ≠ "java/lang/invoke/MethodHandle" ∧ yX7_layNumber.cls ≠ "java/lang/invoke/VarHandle" ∧ (parseMethodDescriptor yX7_layNumber.desc).map (fun d => d.parameters.length) = some 1 := by decide +kernel
theorem eX7_layNumber_0 : Dc cX7_layNumber 0 (.iload_n 1) 1 1 := ⟨by decide +kernel, rfl⟩
theorem eX7_layNumber_1 : Dc cX7_layNumber 1 (.istore_n 2) 1 2 := ⟨by decide +kernel, rfl⟩
theorem eX7_layNumber_2 : Dc cX7_layNumber 2 (.iconst 0) 1 3 := ⟨by decide +kernel, rfl⟩
theorem eX7_layNumber_3 : Dc cX7_layNumber 3 (.istore_n 3) 1 4 := ⟨by decide +kernel, rfl⟩
theorem eX7_layNumber_4 : Dc cX7_layNumber 4 (.iload_n 3) 1 5 := ⟨by decide +kernel, rfl⟩
theorem eX7_layNumber_5 : Dc cX7_layNumber 5 (.bipush 6) 2 7 := ⟨by decide +kernel, rfl⟩
theorem eX7_layNumber_7 : Dc cX7_layNumber 7 (.if_icmp .ge 64) 3 10 := ⟨by decide +kernel, rfl⟩
theorem eX7_layNumber_10 : Dc cX7_layNumber 10 (.aload_n 0) 1 11 := ⟨by decide +kernel, rfl⟩
theorem eX7_layNumber_11 : Dc cX7_layNumber 11 (.getfield 40) 3 14 := ⟨by decide +kernel, rfl⟩
theorem eX7_layNumber_14 : Dc cX7_layNumber 14 (.iload_n 3) 1 15 := ⟨by decide +kernel, rfl⟩
theorem eX7_layNumber_15 : Dc cX7_layNumber 15 (.iload_n 2) 1 16 := ⟨by decide +kernel, rfl⟩
theorem eX7_layNumber_16 : Dc cX7_layNumber 16 (.bipush 6) 2 18 := ⟨by decide +kernel, rfl⟩
theorem eX7_layNumber_18 : Dc cX7_layNumber 18 (.irem) 1 19 := ⟨by decide +kernel, rfl⟩
theorem eX7_layNumber_19 : Dc cX7_layNumber 19 (.iastore) 1 20 := ⟨by decide +kernel, rfl⟩
theorem eX7_layNumber_20 : Dc cX7_layNumber 20 (.iload_n 2) 1 21 := ⟨by decide +kernel, rfl⟩
theorem eX7_layNumber_21 : Dc cX7_layNumber 21 (.bipush 6) 2 23 := ⟨by decide +kernel, rfl⟩
theorem eX7_layNumber_23 : Dc cX7_layNumber 23 (.idiv) 1 24 := ⟨by decide +kernel, rfl⟩
theorem eX7_layNumber_24 : Dc cX7_layNumber 24 (.istore_n 2) 1 25 := ⟨by decide +kernel, rfl⟩
theorem eX7_layNumber_25 : Dc cX7_layNumber 25 (.aload_n 0) 1 26 := ⟨by decide +kernel, rfl⟩
theorem eX7_layNumber_26 : Dc cX7_layNumber 26 (.getfield 40) 3 29 := ⟨by decide +kernel, rfl⟩
theorem eX7_layNumber_29 : Dc cX7_layNumber 29 (.iload_n 3) 1 30 := ⟨by decide +kernel, rfl⟩
theorem eX7_layNumber_30 : Dc cX7_layNumber 30 (.iaload) 1 31 := ⟨by decide +kernel, rfl⟩
theorem eX7_layNumber_31 : Dc cX7_layNumber 31 (.ifCond .le 34) 3 34 := ⟨by decide +kernel, rfl⟩
theorem eX7_layNumber_34 : Dc cX7_layNumber 34 (.iload_n 3) 1 35 := ⟨by decide +kernel, rfl⟩
theorem eX7_layNumber_35 : Dc cX7_layNumber 35 (.aload_n 0) 1 36 := ⟨by decide +kernel, rfl⟩
theorem eX7_layNumber_36 : Dc cX7_layNumber 36 (.getfield 69) 3 39 := ⟨by decide +kernel, rfl⟩
theorem eX7_layNumber_39 : Dc cX7_layNumber 39 (.if_icmp .ge 24) 3 42 := ⟨by decide +kernel, rfl⟩
theorem eX7_layNumber_42 : Dc cX7_layNumber 42 (.aload_n 0) 1 43 := ⟨by decide +kernel, rfl⟩
theorem eX7_layNumber_43 : Dc cX7_layNumber 43 (.iload_n 3) 1 44 := ⟨by decide +kernel, rfl⟩
theorem eX7_layNumber_44 : Dc cX7_layNumber 44 (.invokevirtual 131) 3 47 := ⟨by decide +kernel, rfl⟩
theorem eX7_layNumber_47 : Dc cX7_layNumber 47 (.ifCond .eq 16) 3 50 := ⟨by decide +kernel, rfl⟩
theorem eX7_layNumber_50 : Dc cX7_layNumber 50 (.aload_n 0) 1 51 := ⟨by decide +kernel, rfl⟩
theorem eX7_layNumber_51 : Dc cX7_layNumber 51 (.getfield 40) 3 54 := ⟨by decide +kernel, rfl⟩
theorem eX7_layNumber_54 : Dc cX7_layNumber 54 (.iload_n 3) 1 55 := ⟨by decide +kernel, rfl⟩
theorem eX7_layNumber_55 : Dc cX7_layNumber 55 (.iaload) 1 56 := ⟨by decide +kernel, rfl⟩
theorem eX7_layNumber_56 : Dc cX7_layNumber 56 (.aload_n 0) 1 57 := ⟨by decide +kernel, rfl⟩
theorem eX7_layNumber_57 : Dc cX7_layNumber 57 (.getfield 76) 3 60 := ⟨by decide +kernel, rfl⟩
theorem eX7_layNumber_60 : Dc cX7_layNumber 60 (.if_icmp .le 5) 3 63 := ⟨by decide +kernel, rfl⟩
theorem eX7_layNumber_63 : Dc cX7_layNumber 63 (.iconst 0) 1 64 := ⟨by decide +kernel, rfl⟩
theorem eX7_layNumber_64 : Dc cX7_layNumber 64 (.ireturn) 1 65 := ⟨by decide +kernel, rfl⟩
theorem eX7_layNumber_65 : Dc cX7_layNumber 65 (.iinc 3 1) 3 68 := ⟨by decide +kernel, rfl⟩
theorem eX7_layNumber_68 : Dc cX7_layNumber 68 (.goto (-64)) 3 71 := ⟨by decide +kernel, rfl⟩
theorem eX7_layNumber_71 : Dc cX7_layNumber 71 (.aload_n 0) 1 72 := ⟨by decide +kernel, rfl⟩
theorem eX7_layNumber_72 : Dc cX7_layNumber 72 (.invokevirtual 167) 3 75 := ⟨by decide +kernel, rfl⟩
theorem eX7_layNumber_75 : Dc cX7_layNumber 75 (.aload_n 0) 1 76 := ⟨by decide +kernel, rfl⟩
theorem eX7_layNumber_76 : Dc cX7_layNumber 76 (.getfield 73) 3 79 := ⟨by decide +kernel, rfl⟩
theorem eX7_layNumber_79 : Dc cX7_layNumber 79 (.if_icmp .gt 7) 3 82 := ⟨by decide +kernel, rfl⟩
theorem eX7_layNumber_82 : Dc cX7_layNumber 82 (.iconst 1) 1 83 := ⟨by decide +kernel, rfl⟩
theorem eX7_layNumber_83 : Dc cX7_layNumber 83 (.goto 4) 3 86 := ⟨by decide +kernel, rfl⟩
theorem eX7_layNumber_86 : Dc cX7_layNumber 86 (.iconst 0) 1 87 := ⟨by decide +kernel, rfl⟩
theorem eX7_layNumber_87 : Dc cX7_layNumber 87 (.ireturn) 1 88 := ⟨by decide +kernel, rfl⟩
def fX7_layNumber_L4 (k : SS → Option (Int32 × SS))  : Nat → Int32 → Int32 → SS → Option (Int32 × SS)
  | 0, _, _, _ => none
  | n + 1, a2, a3, c => if (6 : Int32) ≤ a3 then k c else ckb 6 a3 (ald 6 (upd (c.2 17) (a3).toNatClampNeg (irm a2 (6 : Int32))) a3 (fun v3 => jn (fun (_ : Unit) => fX7_layNumber_L4 k n (a2 / (6 : Int32)) (a3 + (1 : Int32)) (sA c 17 (a3).toNatClampNeg (irm a2 (6 : Int32)))) (fun j65 => if v3 ≤ (0 : Int32) then j65 () else if (c.1 0) ≤ a3 then some ((0 : Int32), (sA c 17 (a3).toNatClampNeg (irm a2 (6 : Int32)))) else if (fX7_isOpen (sA c 17 (a3).toNatClampNeg (irm a2 (6 : Int32))) a3) = (0 : Int32) then some ((0 : Int32), (sA c 17 (a3).toNatClampNeg (irm a2 (6 : Int32)))) else ald 6 (upd (c.2 17) (a3).toNatClampNeg (irm a2 (6 : Int32))) a3 (fun v7 => if v7 ≤ (c.1 11) then j65 () else some ((0 : Int32), (sA c 17 (a3).toNatClampNeg (irm a2 (6 : Int32))))))))
def fX7_layNumber (c : SS) (p1 : Int32) : Option (Int32 × SS) := fX7_layNumber_L4 (fun (c9 : SS) => Option.bind (fX7_heldIn c9) (fun q10 => if (c9.1 10) < q10 then some ((0 : Int32), c9) else some ((1 : Int32), c9))) fu p1 (0 : Int32) c
set_option maxRecDepth 20000 in
theorem ctX7_layNumber_L4 (l : Launch) (G : tg_G) (A : Nat → Nat) (k : SS → Option (Int32 × SS))  {z : Int32 × SS} (hk : ∀ (ec : SS), k ec = some z → V l G (tg_Zm G (fun v w1 => v = some (.int z.1) ∧ w1 = wM G A z.2) 0 0) tg_E0 (tg_R 1 22) "TramGodModel" "layNumber" cX7_layNumber 4 (some .boolean) 71 [(0, .ref (A 0))] [] (wM G A ec) 0 0) : ∀ (n : Nat) (a2 : Int32) (a3 : Int32) (c : SS), fX7_layNumber_L4 k n a2 a3 c = some z → V l G (tg_Zm G (fun v w1 => v = some (.int z.1) ∧ w1 = wM G A z.2) 0 0) tg_E0 (tg_R 1 22) "TramGodModel" "layNumber" cX7_layNumber 4 (some .boolean) 4 [(0, .ref (A 0)), (2, .int a2), (3, .int a3)] [] (wM G A c) 0 0 := by
  intro n
  induction n with
  | zero => intro a2 a3 c h; exact absurd h (by simp [fX7_layNumber_L4])
  | succ n ih =>
    intro a2 a3 c h
    unfold fX7_layNumber_L4 at h
    refine V_iload_n eX7_layNumber_4 2 rfl ?_
    refine V_bipush (v := (6 : Int32)) eX7_layNumber_5 rfl ?_
    refine V_icmp_ge (tgt := 71) eX7_layNumber_7 rfl (fun hb1 => ?_) (fun hb1 => ?_)
    · replace h := (if_pos hb1).symm.trans h
      refine V_lv (lv' := [(0, .ref (A 0))]) [0] rfl ?_
      exact hk c h
    · replace h := (if_neg hb1).symm.trans h
      refine V_aload_n eX7_layNumber_10 0 rfl ?_
      refine V_get (v := .ref (A 11)) eX7_layNumber_11 inX7 0 rfl rfl 17 (Nat.le_of_ble_eq_true rfl) tw_662 rfl ?_
      refine V_iload_n eX7_layNumber_14 2 rfl ?_
      refine V_iload_n eX7_layNumber_15 1 rfl ?_
      refine V_bipush (v := (6 : Int32)) eX7_layNumber_16 rfl ?_
      refine V_irem eX7_layNumber_18 (by decide) ?_
      obtain ⟨hi2, h⟩ := ckb_some h
      refine V_iast (w' := wM G A (sA c 17 (a3).toNatClampNeg (irm a2 (6 : Int32)))) eX7_layNumber_19 11 rfl hi2 rfl ?_
      refine V_iload_n eX7_layNumber_20 1 rfl ?_
      refine V_bipush (v := (6 : Int32)) eX7_layNumber_21 rfl ?_
      refine V_idiv eX7_layNumber_23 (by decide) ?_
      refine V_istore_n (lv' := [(2, .int (a2 / (6 : Int32))), (0, .ref (A 0)), (3, .int a3)]) eX7_layNumber_24 (Nat.le_of_ble_eq_true rfl) rfl ?_
      refine V_aload_n eX7_layNumber_25 1 rfl ?_
      refine V_get (v := .ref (A 11)) eX7_layNumber_26 inX7 0 rfl rfl 17 (Nat.le_of_ble_eq_true rfl) tw_662 rfl ?_
      refine V_iload_n eX7_layNumber_29 2 rfl ?_
      obtain ⟨v3, hi3, ev3, h⟩ := ald_some h
      refine V_ialdv eX7_layNumber_30 11 rfl hi3 ev3 ?_
      refine jn_elim h (fun j => j () = some z → V l G (tg_Zm G (fun v w1 => v = some (.int z.1) ∧ w1 = wM G A z.2) 0 0) tg_E0 (tg_R 1 22) "TramGodModel" "layNumber" cX7_layNumber 4 (some .boolean) 65 [(0, .ref (A 0)), (2, .int (a2 / (6 : Int32))), (3, .int a3)] [] (wM G A (sA c 17 (a3).toNatClampNeg (irm a2 (6 : Int32)))) 0 0) ?_ (fun j65 hj65 h => ?_)
      · intro h
        refine V_iinc (v := (a3 + (1 : Int32))) (lv' := [(3, .int (a3 + (1 : Int32))), (0, .ref (A 0)), (2, .int (a2 / (6 : Int32)))]) eX7_layNumber_65 2 rfl rfl (Nat.le_of_ble_eq_true rfl) rfl ?_
        refine V_goto (tgt := 4) eX7_layNumber_68 rfl ?_
        refine V_lv (lv' := [(0, .ref (A 0)), (2, .int (a2 / (6 : Int32))), (3, .int (a3 + (1 : Int32)))]) [1, 2, 0] rfl ?_
        exact ih (a2 / (6 : Int32)) (a3 + (1 : Int32)) (sA c 17 (a3).toNatClampNeg (irm a2 (6 : Int32))) h
      refine V_if_le (tgt := 65) eX7_layNumber_31 rfl (fun hb4 => ?_) (fun hb4 => ?_)
      · replace h := (if_pos hb4).symm.trans h
        refine V_lv (lv' := [(0, .ref (A 0)), (2, .int (a2 / (6 : Int32))), (3, .int a3)]) [1, 0, 2] rfl ?_
        exact hj65 h
      · replace h := (if_neg hb4).symm.trans h
        refine V_iload_n eX7_layNumber_34 2 rfl ?_
        refine V_aload_n eX7_layNumber_35 1 rfl ?_
        refine V_get (v := .int (c.1 0)) eX7_layNumber_36 inX7 0 rfl rfl 0 (Nat.le_of_ble_eq_true rfl) tw_645 rfl ?_
        refine V_icmp_ge (tgt := 63) eX7_layNumber_39 rfl (fun hb5 => ?_) (fun hb5 => ?_)
        · replace h := (if_pos hb5).symm.trans h
          refine V_iconst (v := (0 : Int32)) eX7_layNumber_63 rfl ?_
          obtain rfl := Option.some.inj h
          exact V_zret eX7_layNumber_64 rfl rfl ⟨rfl, rfl⟩
        · replace h := (if_neg hb5).symm.trans h
          refine V_aload_n eX7_layNumber_42 1 rfl ?_
          refine V_iload_n eX7_layNumber_43 2 rfl ?_
          refine V_callVi (rest := []) eX7_layNumber_44 (ctX7_isOpen l G A (sA c 17 (a3).toNatClampNeg (irm a2 (6 : Int32))) a3 rfl) tc_818 tw_815 tw_8 tw_817 ts_24 0 rfl rfl hdX7_isOpen rfl ⟨Nat.le_of_ble_eq_true rfl, Nat.le_of_ble_eq_true rfl⟩ rfl (Nat.le_of_ble_eq_true rfl) ⟨Nat.zero_le _, Nat.zero_le _⟩ ?_
          refine V_if_eq (tgt := 63) eX7_layNumber_47 rfl (fun hb6 => ?_) (fun hb6 => ?_)
          · replace h := (if_pos hb6).symm.trans h
            refine V_iconst (v := (0 : Int32)) eX7_layNumber_63 rfl ?_
            obtain rfl := Option.some.inj h
            exact V_zret eX7_layNumber_64 rfl rfl ⟨rfl, rfl⟩
          · replace h := (if_neg hb6).symm.trans h
            refine V_aload_n eX7_layNumber_50 1 rfl ?_
            refine V_get (v := .ref (A 11)) eX7_layNumber_51 inX7 0 rfl rfl 17 (Nat.le_of_ble_eq_true rfl) tw_662 rfl ?_
            refine V_iload_n eX7_layNumber_54 2 rfl ?_
            obtain ⟨v7, hi7, ev7, h⟩ := ald_some h
            refine V_ialdv eX7_layNumber_55 11 rfl hi7 ev7 ?_
            refine V_aload_n eX7_layNumber_56 1 rfl ?_
            refine V_get (v := .int (c.1 11)) eX7_layNumber_57 inX7 0 rfl rfl 11 (Nat.le_of_ble_eq_true rfl) tw_656 rfl ?_
            refine V_icmp_le (tgt := 65) eX7_layNumber_60 rfl (fun hb8 => ?_) (fun hb8 => ?_)
            · replace h := (if_pos hb8).symm.trans h
              refine V_lv (lv' := [(0, .ref (A 0)), (2, .int (a2 / (6 : Int32))), (3, .int a3)]) [1, 0, 2] rfl ?_
              exact hj65 h
            · replace h := (if_neg hb8).symm.trans h
              refine V_iconst (v := (0 : Int32)) eX7_layNumber_63 rfl ?_
              obtain rfl := Option.some.inj h
              exact V_zret eX7_layNumber_64 rfl rfl ⟨rfl, rfl⟩
set_option maxRecDepth 20000 in
theorem ctX7_layNumber (l : Launch) (G : tg_G) (A : Nat → Nat) (c : SS) (p1 : Int32) {z : Int32 × SS} (h : fX7_layNumber c p1 = some z) : Mt l G yX7_layNumber cX7_layNumber 4 (some .boolean) (tg_R 1 22) [.ref (A 0), .int p1] (wM G A c) (fun v w1 => v = some (.int z.1) ∧ w1 = wM G A z.2) := by
  refine Mt_of2 (own := "TramGodModel") (nm := "layNumber") rfl rfl rfl (Nat.le_of_ble_eq_true rfl) (lv := [(0, .ref (A 0)), (1, .int p1)]) rfl ?_
  unfold fX7_layNumber at h
  refine V_iload_n eX7_layNumber_0 1 rfl ?_
  refine V_istore_n (lv' := [(2, .int p1), (0, .ref (A 0)), (1, .int p1)]) eX7_layNumber_1 (Nat.le_of_ble_eq_true rfl) rfl ?_
  refine V_iconst (v := (0 : Int32)) eX7_layNumber_2 rfl ?_
  refine V_istore_n (lv' := [(3, .int (0 : Int32)), (2, .int p1), (0, .ref (A 0)), (1, .int p1)]) eX7_layNumber_3 (Nat.le_of_ble_eq_true rfl) rfl ?_
  refine V_lv (lv' := [(0, .ref (A 0)), (2, .int p1), (3, .int (0 : Int32))]) [2, 1, 0] rfl ?_
  refine ctX7_layNumber_L4 l G A _ ?_ fu p1 (0 : Int32) c h
  · intro c9 h
    refine V_aload_n eX7_layNumber_71 0 rfl ?_
    obtain ⟨q10, hc10, h⟩ := Option.bind_eq_some_iff.mp h
    refine V_callVi (rest := []) eX7_layNumber_72 (ctX7_heldIn l G A c9 hc10) tc_883 tw_880 tw_8 tw_882 ts_35 0 rfl rfl hdX7_heldIn rfl ⟨Nat.le_of_ble_eq_true rfl, Nat.le_of_ble_eq_true rfl⟩ rfl (Nat.le_of_ble_eq_true rfl) ⟨Nat.zero_le _, Nat.zero_le _⟩ ?_
    refine V_aload_n eX7_layNumber_75 0 rfl ?_
    refine V_get (v := .int (c9.1 10)) eX7_layNumber_76 inX7 0 rfl rfl 10 (Nat.le_of_ble_eq_true rfl) tw_655 rfl ?_
    refine V_icmp_gt (tgt := 86) eX7_layNumber_79 rfl (fun hb11 => ?_) (fun hb11 => ?_)
    · replace h := (if_pos hb11).symm.trans h
      refine V_iconst (v := (0 : Int32)) eX7_layNumber_86 rfl ?_
      obtain rfl := Option.some.inj h
      exact V_zret eX7_layNumber_87 rfl rfl ⟨rfl, rfl⟩
    · replace h := (if_neg hb11).symm.trans h
      refine V_iconst (v := (1 : Int32)) eX7_layNumber_82 rfl ?_
      refine V_goto (tgt := 87) eX7_layNumber_83 rfl ?_
      obtain rfl := Option.some.inj h
      exact V_zret eX7_layNumber_87 rfl rfl ⟨rfl, rfl⟩
theorem hdX7_canHold : yX7_canHold.cls ≠ "java/lang/invoke/MethodHandle" ∧ yX7_canHold.cls ≠ "java/lang/invoke/VarHandle" ∧ (parseMethodDescriptor yX7_canHold.desc).map (fun d => d.parameters.length) = some 1 := by decide +kernel
theorem eX7_canHold_0 : Dc cX7_canHold 0 (.aload_n 0) 1 1 := ⟨by decide +kernel, rfl⟩
theorem eX7_canHold_1 : Dc cX7_canHold 1 (.iload_n 1) 1 2 := ⟨by decide +kernel, rfl⟩
theorem eX7_canHold_2 : Dc cX7_canHold 2 (.invokevirtual 131) 3 5 := ⟨by decide +kernel, rfl⟩
theorem eX7_canHold_5 : Dc cX7_canHold 5 (.ifCond .eq 20) 3 8 := ⟨by decide +kernel, rfl⟩
theorem eX7_canHold_8 : Dc cX7_canHold 8 (.aload_n 0) 1 9 := ⟨by decide +kernel, rfl⟩
theorem eX7_canHold_9 : Dc cX7_canHold 9 (.getfield 40) 3 12 := ⟨by decide +kernel, rfl⟩
theorem eX7_canHold_12 : Dc cX7_canHold 12 (.iload_n 1) 1 13 := ⟨by decide +kernel, rfl⟩
theorem eX7_canHold_13 : Dc cX7_canHold 13 (.iaload) 1 14 := ⟨by decide +kernel, rfl⟩
theorem eX7_canHold_14 : Dc cX7_canHold 14 (.aload_n 0) 1 15 := ⟨by decide +kernel, rfl⟩
theorem eX7_canHold_15 : Dc cX7_canHold 15 (.getfield 76) 3 18 := ⟨by decide +kernel, rfl⟩
theorem eX7_canHold_18 : Dc cX7_canHold 18 (.if_icmp .ge 7) 3 21 := ⟨by decide +kernel, rfl⟩
theorem eX7_canHold_21 : Dc cX7_canHold 21 (.iconst 1) 1 22 := ⟨by decide +kernel, rfl⟩
theorem eX7_canHold_22 : Dc cX7_canHold 22 (.goto 4) 3 25 := ⟨by decide +kernel, rfl⟩
theorem eX7_canHold_25 : Dc cX7_canHold 25 (.iconst 0) 1 26 := ⟨by decide +kernel, rfl⟩
theorem eX7_canHold_26 : Dc cX7_canHold 26 (.ireturn) 1 27 := ⟨by decide +kernel, rfl⟩
def fX7_canHold (c : SS) (p1 : Int32) : Option (Int32) := if (fX7_isOpen c p1) = (0 : Int32) then some (0 : Int32) else ald 6 (c.2 17) p1 (fun v2 => if (c.1 11) ≤ v2 then some (0 : Int32) else some (1 : Int32))
set_option maxRecDepth 20000 in
theorem ctX7_canHold (l : Launch) (G : tg_G) (A : Nat → Nat) (c : SS) (p1 : Int32) {z : Int32} (h : fX7_canHold c p1 = some z) : Mt l G yX7_canHold cX7_canHold 2 (some .boolean) (tg_R 1 21) [.ref (A 0), .int p1] (wM G A c) (fun v w1 => v = some (.int z) ∧ w1 = wM G A c) := by
  refine Mt_of2 (own := "TramGodModel") (nm := "canHold") rfl rfl rfl (Nat.le_of_ble_eq_true rfl) (lv := [(0, .ref (A 0)), (1, .int p1)]) rfl ?_
  unfold fX7_canHold at h
  refine V_aload_n eX7_canHold_0 0 rfl ?_
  refine V_iload_n eX7_canHold_1 1 rfl ?_
  refine V_callVi (rest := []) eX7_canHold_2 (ctX7_isOpen l G A c p1 rfl) tc_818 tw_815 tw_8 tw_817 ts_24 0 rfl rfl hdX7_isOpen rfl ⟨Nat.le_of_ble_eq_true rfl, Nat.le_of_ble_eq_true rfl⟩ rfl (Nat.le_of_ble_eq_true rfl) ⟨Nat.zero_le _, Nat.zero_le _⟩ ?_
  refine V_if_eq (tgt := 25) eX7_canHold_5 rfl (fun hb1 => ?_) (fun hb1 => ?_)
  · replace h := (if_pos hb1).symm.trans h
    refine V_iconst (v := (0 : Int32)) eX7_canHold_25 rfl ?_
    obtain rfl := Option.some.inj h
    exact V_zret eX7_canHold_26 rfl rfl ⟨rfl, rfl⟩
  · replace h := (if_neg hb1).symm.trans h
    refine V_aload_n eX7_canHold_8 0 rfl ?_
    refine V_get (v := .ref (A 11)) eX7_canHold_9 inX7 0 rfl rfl 17 (Nat.le_of_ble_eq_true rfl) tw_662 rfl ?_
    refine V_iload_n eX7_canHold_12 1 rfl ?_
    obtain ⟨v2, hi2, ev2, h⟩ := ald_some h
    refine V_ialdv eX7_canHold_13 11 rfl hi2 ev2 ?_
    refine V_aload_n eX7_canHold_14 0 rfl ?_
    refine V_get (v := .int (c.1 11)) eX7_canHold_15 inX7 0 rfl rfl 11 (Nat.le_of_ble_eq_true rfl) tw_656 rfl ?_
    refine V_icmp_ge (tgt := 25) eX7_canHold_18 rfl (fun hb3 => ?_) (fun hb3 => ?_)
    · replace h := (if_pos hb3).symm.trans h
      refine V_iconst (v := (0 : Int32)) eX7_canHold_25 rfl ?_
      obtain rfl := Option.some.inj h
      exact V_zret eX7_canHold_26 rfl rfl ⟨rfl, rfl⟩
    · replace h := (if_neg hb3).symm.trans h
      refine V_iconst (v := (1 : Int32)) eX7_canHold_21 rfl ?_
      refine V_goto (tgt := 26) eX7_canHold_22 rfl ?_
      obtain rfl := Option.some.inj h
      exact V_zret eX7_canHold_26 rfl rfl ⟨rfl, rfl⟩
theorem hdX7_canHoldAny : yX7_canHoldAny.cls ≠ "java/lang/invoke/MethodHandle" ∧ yX7_canHoldAny.cls ≠ "java/lang/invoke/VarHandle" ∧ (parseMethodDescriptor yX7_canHoldAny.desc).map (fun d => d.parameters.length) = some 0 := by decide +kernel
theorem eX7_canHoldAny_0 : Dc cX7_canHoldAny 0 (.iconst 0) 1 1 := ⟨by decide +kernel, rfl⟩
theorem eX7_canHoldAny_1 : Dc cX7_canHoldAny 1 (.istore_n 1) 1 2 := ⟨by decide +kernel, rfl⟩
theorem eX7_canHoldAny_2 : Dc cX7_canHoldAny 2 (.iconst 0) 1 3 := ⟨by decide +kernel, rfl⟩
theorem eX7_canHoldAny_3 : Dc cX7_canHoldAny 3 (.istore_n 2) 1 4 := ⟨by decide +kernel, rfl⟩
theorem eX7_canHoldAny_4 : Dc cX7_canHoldAny 4 (.iload_n 2) 1 5 := ⟨by decide +kernel, rfl⟩
theorem eX7_canHoldAny_5 : Dc cX7_canHoldAny 5 (.aload_n 0) 1 6 := ⟨by decide +kernel, rfl⟩
theorem eX7_canHoldAny_6 : Dc cX7_canHoldAny 6 (.getfield 69) 3 9 := ⟨by decide +kernel, rfl⟩
theorem eX7_canHoldAny_9 : Dc cX7_canHoldAny 9 (.if_icmp .ge 27) 3 12 := ⟨by decide +kernel, rfl⟩
theorem eX7_canHoldAny_12 : Dc cX7_canHoldAny 12 (.iload_n 1) 1 13 := ⟨by decide +kernel, rfl⟩
theorem eX7_canHoldAny_13 : Dc cX7_canHoldAny 13 (.ifCond .ne 11) 3 16 := ⟨by decide +kernel, rfl⟩
theorem eX7_canHoldAny_16 : Dc cX7_canHoldAny 16 (.aload_n 0) 1 17 := ⟨by decide +kernel, rfl⟩
theorem eX7_canHoldAny_17 : Dc cX7_canHoldAny 17 (.iload_n 2) 1 18 := ⟨by decide +kernel, rfl⟩
theorem eX7_canHoldAny_18 : Dc cX7_canHoldAny 18 (.invokevirtual 198) 3 21 := ⟨by decide +kernel, rfl⟩
theorem eX7_canHoldAny_21 : Dc cX7_canHoldAny 21 (.ifCond .eq 7) 3 24 := ⟨by decide +kernel, rfl⟩
theorem eX7_canHoldAny_24 : Dc cX7_canHoldAny 24 (.iconst 1) 1 25 := ⟨by decide +kernel, rfl⟩
theorem eX7_canHoldAny_25 : Dc cX7_canHoldAny 25 (.goto 4) 3 28 := ⟨by decide +kernel, rfl⟩
theorem eX7_canHoldAny_28 : Dc cX7_canHoldAny 28 (.iconst 0) 1 29 := ⟨by decide +kernel, rfl⟩
theorem eX7_canHoldAny_29 : Dc cX7_canHoldAny 29 (.istore_n 1) 1 30 := ⟨by decide +kernel, rfl⟩
theorem eX7_canHoldAny_30 : Dc cX7_canHoldAny 30 (.iinc 2 1) 3 33 := ⟨by decide +kernel, rfl⟩
theorem eX7_canHoldAny_33 : Dc cX7_canHoldAny 33 (.goto (-29)) 3 36 := ⟨by decide +kernel, rfl⟩
theorem eX7_canHoldAny_36 : Dc cX7_canHoldAny 36 (.iload_n 1) 1 37 := ⟨by decide +kernel, rfl⟩
theorem eX7_canHoldAny_37 : Dc cX7_canHoldAny 37 (.ifCond .eq 18) 3 40 := ⟨by decide +kernel, rfl⟩
theorem eX7_canHoldAny_40 : Dc cX7_canHoldAny 40 (.aload_n 0) 1 41 := ⟨by decide +kernel, rfl⟩
theorem eX7_canHoldAny_41 : Dc cX7_canHoldAny 41 (.invokevirtual 167) 3 44 := ⟨by decide +kernel, rfl⟩
theorem eX7_canHoldAny_44 : Dc cX7_canHoldAny 44 (.aload_n 0) 1 45 := ⟨by decide +kernel, rfl⟩
theorem eX7_canHoldAny_45 : Dc cX7_canHoldAny 45 (.getfield 73) 3 48 := ⟨by decide +kernel, rfl⟩
theorem eX7_canHoldAny_48 : Dc cX7_canHoldAny 48 (.if_icmp .ge 7) 3 51 := ⟨by decide +kernel, rfl⟩
theorem eX7_canHoldAny_51 : Dc cX7_canHoldAny 51 (.iconst 1) 1 52 := ⟨by decide +kernel, rfl⟩
theorem eX7_canHoldAny_52 : Dc cX7_canHoldAny 52 (.goto 4) 3 55 := ⟨by decide +kernel, rfl⟩
theorem eX7_canHoldAny_55 : Dc cX7_canHoldAny 55 (.iconst 0) 1 56 := ⟨by decide +kernel, rfl⟩
theorem eX7_canHoldAny_56 : Dc cX7_canHoldAny 56 (.ireturn) 1 57 := ⟨by decide +kernel, rfl⟩
def fX7_canHoldAny_L4 (k : Int32 → Option (Int32)) (c : SS)  : Nat → Int32 → Int32 → Option (Int32)
  | 0, _, _ => none
  | n + 1, a1, a2 => if (c.1 0) ≤ a2 then k a1 else jn (fun (x2 : Int32) => fX7_canHoldAny_L4 k c n x2 (a2 + (1 : Int32))) (fun j29 => jn (fun (_ : Unit) => j29 (1 : Int32)) (fun j24 => if a1 = (0 : Int32) then Option.bind (fX7_canHold c a2) (fun q4 => if q4 = (0 : Int32) then j29 (0 : Int32) else j24 ()) else j24 ()))
def fX7_canHoldAny (c : SS)  : Option (Int32) := fX7_canHoldAny_L4 (fun (x6 : Int32) => if x6 = (0 : Int32) then some (0 : Int32) else Option.bind (fX7_heldIn c) (fun q8 => if (c.1 10) ≤ q8 then some (0 : Int32) else some (1 : Int32))) c fu (0 : Int32) (0 : Int32)
set_option maxRecDepth 20000 in
theorem ctX7_canHoldAny_L4 (l : Launch) (G : tg_G) (A : Nat → Nat) (k : Int32 → Option (Int32)) (c : SS)  {z : Int32} (hk : ∀ (e1 : Int32), k e1 = some z → V l G (tg_Zm G (fun v w1 => v = some (.int z) ∧ w1 = wM G A c) 0 0) tg_E0 (tg_R 2 42) "TramGodModel" "canHoldAny" cX7_canHoldAny 3 (some .boolean) 36 [(0, .ref (A 0)), (1, .int e1)] [] (wM G A c) 0 0) : ∀ (n : Nat) (a1 : Int32) (a2 : Int32), fX7_canHoldAny_L4 k c n a1 a2 = some z → V l G (tg_Zm G (fun v w1 => v = some (.int z) ∧ w1 = wM G A c) 0 0) tg_E0 (tg_R 2 42) "TramGodModel" "canHoldAny" cX7_canHoldAny 3 (some .boolean) 4 [(0, .ref (A 0)), (1, .int a1), (2, .int a2)] [] (wM G A c) 0 0 := by
  intro n
  induction n with
  | zero => intro a1 a2 h; exact absurd h (by simp [fX7_canHoldAny_L4])
  | succ n ih =>
    intro a1 a2 h
    unfold fX7_canHoldAny_L4 at h
    refine V_iload_n eX7_canHoldAny_4 2 rfl ?_
    refine V_aload_n eX7_canHoldAny_5 0 rfl ?_
    refine V_get (v := .int (c.1 0)) eX7_canHoldAny_6 inX7 0 rfl rfl 0 (Nat.le_of_ble_eq_true rfl) tw_645 rfl ?_
    refine V_icmp_ge (tgt := 36) eX7_canHoldAny_9 rfl (fun hb1 => ?_) (fun hb1 => ?_)
    · replace h := (if_pos hb1).symm.trans h
      refine V_lv (lv' := [(0, .ref (A 0)), (1, .int a1)]) [0, 1] rfl ?_
      exact hk a1 h
    · replace h := (if_neg hb1).symm.trans h
      refine V_iload_n eX7_canHoldAny_12 1 rfl ?_
      refine jn_elim h (fun j => ∀ (x2 : Int32), j x2 = some z → V l G (tg_Zm G (fun v w1 => v = some (.int z) ∧ w1 = wM G A c) 0 0) tg_E0 (tg_R 2 42) "TramGodModel" "canHoldAny" cX7_canHoldAny 3 (some .boolean) 29 [(0, .ref (A 0)), (2, .int a2)] [.int x2] (wM G A c) 0 0) ?_ (fun j29 hj29 h => ?_)
      · intro x2 h
        refine V_istore_n (lv' := [(1, .int x2), (0, .ref (A 0)), (2, .int a2)]) eX7_canHoldAny_29 (Nat.le_of_ble_eq_true rfl) rfl ?_
        refine V_iinc (v := (a2 + (1 : Int32))) (lv' := [(2, .int (a2 + (1 : Int32))), (1, .int x2), (0, .ref (A 0))]) eX7_canHoldAny_30 2 rfl rfl (Nat.le_of_ble_eq_true rfl) rfl ?_
        refine V_goto (tgt := 4) eX7_canHoldAny_33 rfl ?_
        refine V_lv (lv' := [(0, .ref (A 0)), (1, .int x2), (2, .int (a2 + (1 : Int32)))]) [2, 1, 0] rfl ?_
        exact ih x2 (a2 + (1 : Int32)) h
      refine jn_elim h (fun j => j () = some z → V l G (tg_Zm G (fun v w1 => v = some (.int z) ∧ w1 = wM G A c) 0 0) tg_E0 (tg_R 2 42) "TramGodModel" "canHoldAny" cX7_canHoldAny 3 (some .boolean) 24 [(0, .ref (A 0)), (2, .int a2)] [] (wM G A c) 0 0) ?_ (fun j24 hj24 h => ?_)
      · intro h
        refine V_iconst (v := (1 : Int32)) eX7_canHoldAny_24 rfl ?_
        refine V_goto (tgt := 29) eX7_canHoldAny_25 rfl ?_
        exact hj29 (1 : Int32) h
      refine V_if_ne (tgt := 24) eX7_canHoldAny_13 rfl (fun hb3 => ?_) (fun hb3 => ?_)
      · replace h := (if_neg hb3).symm.trans h
        refine V_lv (lv' := [(0, .ref (A 0)), (2, .int a2)]) [0, 2] rfl ?_
        exact hj24 h
      · replace h := (if_pos hb3).symm.trans h
        refine V_aload_n eX7_canHoldAny_16 0 rfl ?_
        refine V_iload_n eX7_canHoldAny_17 2 rfl ?_
        obtain ⟨q4, hc4, h⟩ := Option.bind_eq_some_iff.mp h
        refine V_callVi (rest := []) eX7_canHoldAny_18 (ctX7_canHold l G A c a2 hc4) tc_938 tw_935 tw_8 tw_937 ts_42 0 rfl rfl hdX7_canHold rfl ⟨Nat.le_of_ble_eq_true rfl, Nat.le_of_ble_eq_true rfl⟩ rfl (Nat.le_of_ble_eq_true rfl) ⟨Nat.zero_le _, Nat.zero_le _⟩ ?_
        refine V_if_eq (tgt := 28) eX7_canHoldAny_21 rfl (fun hb5 => ?_) (fun hb5 => ?_)
        · replace h := (if_pos hb5).symm.trans h
          refine V_iconst (v := (0 : Int32)) eX7_canHoldAny_28 rfl ?_
          refine V_lv (lv' := [(0, .ref (A 0)), (2, .int a2)]) [0, 2] rfl ?_
          exact hj29 (0 : Int32) h
        · replace h := (if_neg hb5).symm.trans h
          refine V_lv (lv' := [(0, .ref (A 0)), (2, .int a2)]) [0, 2] rfl ?_
          exact hj24 h
set_option maxRecDepth 20000 in
theorem ctX7_canHoldAny (l : Launch) (G : tg_G) (A : Nat → Nat) (c : SS)  {z : Int32} (h : fX7_canHoldAny c  = some z) : Mt l G yX7_canHoldAny cX7_canHoldAny 3 (some .boolean) (tg_R 2 42) [.ref (A 0)] (wM G A c) (fun v w1 => v = some (.int z) ∧ w1 = wM G A c) := by
  refine Mt_of2 (own := "TramGodModel") (nm := "canHoldAny") rfl rfl rfl (Nat.le_of_ble_eq_true rfl) (lv := [(0, .ref (A 0))]) rfl ?_
  unfold fX7_canHoldAny at h
  refine V_iconst (v := (0 : Int32)) eX7_canHoldAny_0 rfl ?_
  refine V_istore_n (lv' := [(1, .int (0 : Int32)), (0, .ref (A 0))]) eX7_canHoldAny_1 (Nat.le_of_ble_eq_true rfl) rfl ?_
  refine V_iconst (v := (0 : Int32)) eX7_canHoldAny_2 rfl ?_
  refine V_istore_n (lv' := [(2, .int (0 : Int32)), (1, .int (0 : Int32)), (0, .ref (A 0))]) eX7_canHoldAny_3 (Nat.le_of_ble_eq_true rfl) rfl ?_
  refine V_lv (lv' := [(0, .ref (A 0)), (1, .int (0 : Int32)), (2, .int (0 : Int32))]) [2, 1, 0] rfl ?_
  refine ctX7_canHoldAny_L4 l G A _ c ?_ fu (0 : Int32) (0 : Int32) h
  · intro x6 h
    refine V_iload_n eX7_canHoldAny_36 1 rfl ?_
    refine V_if_eq (tgt := 55) eX7_canHoldAny_37 rfl (fun hb7 => ?_) (fun hb7 => ?_)
    · replace h := (if_pos hb7).symm.trans h
      refine V_iconst (v := (0 : Int32)) eX7_canHoldAny_55 rfl ?_
      obtain rfl := Option.some.inj h
      exact V_zret eX7_canHoldAny_56 rfl rfl ⟨rfl, rfl⟩
    · replace h := (if_neg hb7).symm.trans h
      refine V_aload_n eX7_canHoldAny_40 0 rfl ?_
      obtain ⟨q8, hc8, h⟩ := Option.bind_eq_some_iff.mp h
      refine V_callVi (rest := []) eX7_canHoldAny_41 (ctX7_heldIn l G A c hc8) tc_883 tw_880 tw_8 tw_882 ts_35 0 rfl rfl hdX7_heldIn rfl ⟨Nat.le_of_ble_eq_true rfl, Nat.le_of_ble_eq_true rfl⟩ rfl (Nat.le_of_ble_eq_true rfl) ⟨Nat.zero_le _, Nat.zero_le _⟩ ?_
      refine V_aload_n eX7_canHoldAny_44 0 rfl ?_
      refine V_get (v := .int (c.1 10)) eX7_canHoldAny_45 inX7 0 rfl rfl 10 (Nat.le_of_ble_eq_true rfl) tw_655 rfl ?_
      refine V_icmp_ge (tgt := 55) eX7_canHoldAny_48 rfl (fun hb9 => ?_) (fun hb9 => ?_)
      · replace h := (if_pos hb9).symm.trans h
        refine V_iconst (v := (0 : Int32)) eX7_canHoldAny_55 rfl ?_
        obtain rfl := Option.some.inj h
        exact V_zret eX7_canHoldAny_56 rfl rfl ⟨rfl, rfl⟩
      · replace h := (if_neg hb9).symm.trans h
        refine V_iconst (v := (1 : Int32)) eX7_canHoldAny_51 rfl ?_
        refine V_goto (tgt := 56) eX7_canHoldAny_52 rfl ?_
        obtain rfl := Option.some.inj h
        exact V_zret eX7_canHoldAny_56 rfl rfl ⟨rfl, rfl⟩
theorem hdX7_choose : yX7_choose.cls ≠ "java/lang/invoke/MethodHandle" ∧ yX7_choose.cls ≠ "java/lang/invoke/VarHandle" ∧ (parseMethodDescriptor yX7_choose.desc).map (fun d => d.parameters.length) = some 5 := by decide +kernel
theorem eX7_choose_0 : Dc cX7_choose 0 (.iconst 4) 1 1 := ⟨by decide +kernel, rfl⟩
theorem eX7_choose_1 : Dc cX7_choose 1 (.iload_n 1) 1 2 := ⟨by decide +kernel, rfl⟩
theorem eX7_choose_2 : Dc cX7_choose 2 (.imul) 1 3 := ⟨by decide +kernel, rfl⟩
theorem eX7_choose_3 : Dc cX7_choose 3 (.iconst 2) 1 4 := ⟨by decide +kernel, rfl⟩
theorem eX7_choose_4 : Dc cX7_choose 4 (.iload_n 2) 1 5 := ⟨by decide +kernel, rfl⟩
theorem eX7_choose_5 : Dc cX7_choose 5 (.imul) 1 6 := ⟨by decide +kernel, rfl⟩
theorem eX7_choose_6 : Dc cX7_choose 6 (.iadd) 1 7 := ⟨by decide +kernel, rfl⟩
theorem eX7_choose_7 : Dc cX7_choose 7 (.iload_n 3) 1 8 := ⟨by decide +kernel, rfl⟩
theorem eX7_choose_8 : Dc cX7_choose 8 (.iadd) 1 9 := ⟨by decide +kernel, rfl⟩
theorem eX7_choose_9 : Dc cX7_choose 9 (.istore 6) 2 11 := ⟨by decide +kernel, rfl⟩
theorem eX7_choose_11 : Dc cX7_choose 11 (.iconst 4) 1 12 := ⟨by decide +kernel, rfl⟩
theorem eX7_choose_12 : Dc cX7_choose 12 (.iload_n 1) 1 13 := ⟨by decide +kernel, rfl⟩
theorem eX7_choose_13 : Dc cX7_choose 13 (.imul) 1 14 := ⟨by decide +kernel, rfl⟩
theorem eX7_choose_14 : Dc cX7_choose 14 (.iconst 2) 1 15 := ⟨by decide +kernel, rfl⟩
theorem eX7_choose_15 : Dc cX7_choose 15 (.iconst 1) 1 16 := ⟨by decide +kernel, rfl⟩
theorem eX7_choose_16 : Dc cX7_choose 16 (.iload_n 2) 1 17 := ⟨by decide +kernel, rfl⟩
theorem eX7_choose_17 : Dc cX7_choose 17 (.isub) 1 18 := ⟨by decide +kernel, rfl⟩
theorem eX7_choose_18 : Dc cX7_choose 18 (.imul) 1 19 := ⟨by decide +kernel, rfl⟩
theorem eX7_choose_19 : Dc cX7_choose 19 (.iadd) 1 20 := ⟨by decide +kernel, rfl⟩
theorem eX7_choose_20 : Dc cX7_choose 20 (.iconst 1) 1 21 := ⟨by decide +kernel, rfl⟩
theorem eX7_choose_21 : Dc cX7_choose 21 (.iadd) 1 22 := ⟨by decide +kernel, rfl⟩
theorem eX7_choose_22 : Dc cX7_choose 22 (.istore 7) 2 24 := ⟨by decide +kernel, rfl⟩
theorem eX7_choose_24 : Dc cX7_choose 24 (.iload_n 3) 1 25 := ⟨by decide +kernel, rfl⟩
theorem eX7_choose_25 : Dc cX7_choose 25 (.iconst 1) 1 26 := ⟨by decide +kernel, rfl⟩
theorem eX7_choose_26 : Dc cX7_choose 26 (.if_icmp .ne 8) 3 29 := ⟨by decide +kernel, rfl⟩
theorem eX7_choose_29 : Dc cX7_choose 29 (.iload 4) 2 31 := ⟨by decide +kernel, rfl⟩
theorem eX7_choose_31 : Dc cX7_choose 31 (.goto 10) 3 34 := ⟨by decide +kernel, rfl⟩
theorem eX7_choose_34 : Dc cX7_choose 34 (.aload_n 0) 1 35 := ⟨by decide +kernel, rfl⟩
theorem eX7_choose_35 : Dc cX7_choose 35 (.getfield 56) 3 38 := ⟨by decide +kernel, rfl⟩
theorem eX7_choose_38 : Dc cX7_choose 38 (.iload 7) 2 40 := ⟨by decide +kernel, rfl⟩
theorem eX7_choose_40 : Dc cX7_choose 40 (.iaload) 1 41 := ⟨by decide +kernel, rfl⟩
theorem eX7_choose_41 : Dc cX7_choose 41 (.istore 8) 2 43 := ⟨by decide +kernel, rfl⟩
theorem eX7_choose_43 : Dc cX7_choose 43 (.iload_n 3) 1 44 := ⟨by decide +kernel, rfl⟩
theorem eX7_choose_44 : Dc cX7_choose 44 (.iconst 1) 1 45 := ⟨by decide +kernel, rfl⟩
theorem eX7_choose_45 : Dc cX7_choose 45 (.if_icmp .ne 8) 3 48 := ⟨by decide +kernel, rfl⟩
theorem eX7_choose_48 : Dc cX7_choose 48 (.iload 5) 2 50 := ⟨by decide +kernel, rfl⟩
theorem eX7_choose_50 : Dc cX7_choose 50 (.goto 10) 3 53 := ⟨by decide +kernel, rfl⟩
theorem eX7_choose_53 : Dc cX7_choose 53 (.aload_n 0) 1 54 := ⟨by decide +kernel, rfl⟩
theorem eX7_choose_54 : Dc cX7_choose 54 (.getfield 59) 3 57 := ⟨by decide +kernel, rfl⟩
theorem eX7_choose_57 : Dc cX7_choose 57 (.iload 7) 2 59 := ⟨by decide +kernel, rfl⟩
theorem eX7_choose_59 : Dc cX7_choose 59 (.iaload) 1 60 := ⟨by decide +kernel, rfl⟩
theorem eX7_choose_60 : Dc cX7_choose 60 (.istore 9) 2 62 := ⟨by decide +kernel, rfl⟩
theorem eX7_choose_62 : Dc cX7_choose 62 (.aload_n 0) 1 63 := ⟨by decide +kernel, rfl⟩
theorem eX7_choose_63 : Dc cX7_choose 63 (.bipush (-6)) 2 65 := ⟨by decide +kernel, rfl⟩
theorem eX7_choose_65 : Dc cX7_choose 65 (.putfield 201) 3 68 := ⟨by decide +kernel, rfl⟩
theorem eX7_choose_68 : Dc cX7_choose 68 (.iconst 0) 1 69 := ⟨by decide +kernel, rfl⟩
theorem eX7_choose_69 : Dc cX7_choose 69 (.istore 10) 2 71 := ⟨by decide +kernel, rfl⟩
theorem eX7_choose_71 : Dc cX7_choose 71 (.iload 10) 2 73 := ⟨by decide +kernel, rfl⟩
theorem eX7_choose_73 : Dc cX7_choose 73 (.aload_n 0) 1 74 := ⟨by decide +kernel, rfl⟩
theorem eX7_choose_74 : Dc cX7_choose 74 (.getfield 69) 3 77 := ⟨by decide +kernel, rfl⟩
theorem eX7_choose_77 : Dc cX7_choose 77 (.if_icmp .ge 129) 3 80 := ⟨by decide +kernel, rfl⟩
theorem eX7_choose_80 : Dc cX7_choose 80 (.iconst 4) 1 81 := ⟨by decide +kernel, rfl⟩
theorem eX7_choose_81 : Dc cX7_choose 81 (.iload_n 1) 1 82 := ⟨by decide +kernel, rfl⟩
theorem eX7_choose_82 : Dc cX7_choose 82 (.iload 10) 2 84 := ⟨by decide +kernel, rfl⟩
theorem eX7_choose_84 : Dc cX7_choose 84 (.invokestatic 204) 3 87 := ⟨by decide +kernel, rfl⟩
theorem eX7_choose_87 : Dc cX7_choose 87 (.iadd) 1 88 := ⟨by decide +kernel, rfl⟩
theorem eX7_choose_88 : Dc cX7_choose 88 (.imul) 1 89 := ⟨by decide +kernel, rfl⟩
theorem eX7_choose_89 : Dc cX7_choose 89 (.iconst 2) 1 90 := ⟨by decide +kernel, rfl⟩
theorem eX7_choose_90 : Dc cX7_choose 90 (.iconst 1) 1 91 := ⟨by decide +kernel, rfl⟩
theorem eX7_choose_91 : Dc cX7_choose 91 (.iload_n 2) 1 92 := ⟨by decide +kernel, rfl⟩
theorem eX7_choose_92 : Dc cX7_choose 92 (.isub) 1 93 := ⟨by decide +kernel, rfl⟩
theorem eX7_choose_93 : Dc cX7_choose 93 (.imul) 1 94 := ⟨by decide +kernel, rfl⟩
theorem eX7_choose_94 : Dc cX7_choose 94 (.iadd) 1 95 := ⟨by decide +kernel, rfl⟩
theorem eX7_choose_95 : Dc cX7_choose 95 (.istore 11) 2 97 := ⟨by decide +kernel, rfl⟩
theorem eX7_choose_97 : Dc cX7_choose 97 (.aload_n 0) 1 98 := ⟨by decide +kernel, rfl⟩
theorem eX7_choose_98 : Dc cX7_choose 98 (.iload 10) 2 100 := ⟨by decide +kernel, rfl⟩
theorem eX7_choose_100 : Dc cX7_choose 100 (.invokevirtual 198) 3 103 := ⟨by decide +kernel, rfl⟩
theorem eX7_choose_103 : Dc cX7_choose 103 (.ifCond .eq 38) 3 106 := ⟨by decide +kernel, rfl⟩
theorem eX7_choose_106 : Dc cX7_choose 106 (.iload_n 2) 1 107 := ⟨by decide +kernel, rfl⟩
theorem eX7_choose_107 : Dc cX7_choose 107 (.ifCond .ne 18) 3 110 := ⟨by decide +kernel, rfl⟩
theorem eX7_choose_110 : Dc cX7_choose 110 (.aload_n 0) 1 111 := ⟨by decide +kernel, rfl⟩
theorem eX7_choose_111 : Dc cX7_choose 111 (.getfield 56) 3 114 := ⟨by decide +kernel, rfl⟩
theorem eX7_choose_114 : Dc cX7_choose 114 (.iload 11) 2 116 := ⟨by decide +kernel, rfl⟩
theorem eX7_choose_116 : Dc cX7_choose 116 (.iaload) 1 117 := ⟨by decide +kernel, rfl⟩
theorem eX7_choose_117 : Dc cX7_choose 117 (.iload 8) 2 119 := ⟨by decide +kernel, rfl⟩
theorem eX7_choose_119 : Dc cX7_choose 119 (.if_icmp .le 22) 3 122 := ⟨by decide +kernel, rfl⟩
theorem eX7_choose_122 : Dc cX7_choose 122 (.goto 15) 3 125 := ⟨by decide +kernel, rfl⟩
theorem eX7_choose_125 : Dc cX7_choose 125 (.aload_n 0) 1 126 := ⟨by decide +kernel, rfl⟩
theorem eX7_choose_126 : Dc cX7_choose 126 (.getfield 59) 3 129 := ⟨by decide +kernel, rfl⟩
theorem eX7_choose_129 : Dc cX7_choose 129 (.iload 11) 2 131 := ⟨by decide +kernel, rfl⟩
theorem eX7_choose_131 : Dc cX7_choose 131 (.iaload) 1 132 := ⟨by decide +kernel, rfl⟩
theorem eX7_choose_132 : Dc cX7_choose 132 (.iload 9) 2 134 := ⟨by decide +kernel, rfl⟩
theorem eX7_choose_134 : Dc cX7_choose 134 (.if_icmp .le 7) 3 137 := ⟨by decide +kernel, rfl⟩
theorem eX7_choose_137 : Dc cX7_choose 137 (.iconst 1) 1 138 := ⟨by decide +kernel, rfl⟩
theorem eX7_choose_138 : Dc cX7_choose 138 (.goto 4) 3 141 := ⟨by decide +kernel, rfl⟩
theorem eX7_choose_141 : Dc cX7_choose 141 (.iconst 0) 1 142 := ⟨by decide +kernel, rfl⟩
theorem eX7_choose_142 : Dc cX7_choose 142 (.istore 12) 2 144 := ⟨by decide +kernel, rfl⟩
theorem eX7_choose_144 : Dc cX7_choose 144 (.aload_n 0) 1 145 := ⟨by decide +kernel, rfl⟩
theorem eX7_choose_145 : Dc cX7_choose 145 (.iload 12) 2 147 := ⟨by decide +kernel, rfl⟩
theorem eX7_choose_147 : Dc cX7_choose 147 (.ifCond .eq 8) 3 150 := ⟨by decide +kernel, rfl⟩
theorem eX7_choose_150 : Dc cX7_choose 150 (.iload 10) 2 152 := ⟨by decide +kernel, rfl⟩
theorem eX7_choose_152 : Dc cX7_choose 152 (.goto 7) 3 155 := ⟨by decide +kernel, rfl⟩
theorem eX7_choose_155 : Dc cX7_choose 155 (.aload_n 0) 1 156 := ⟨by decide +kernel, rfl⟩
theorem eX7_choose_156 : Dc cX7_choose 156 (.getfield 201) 3 159 := ⟨by decide +kernel, rfl⟩
theorem eX7_choose_159 : Dc cX7_choose 159 (.putfield 201) 3 162 := ⟨by decide +kernel, rfl⟩
theorem eX7_choose_162 : Dc cX7_choose 162 (.iload 12) 2 164 := ⟨by decide +kernel, rfl⟩
theorem eX7_choose_164 : Dc cX7_choose 164 (.ifCond .eq 13) 3 167 := ⟨by decide +kernel, rfl⟩
theorem eX7_choose_167 : Dc cX7_choose 167 (.aload_n 0) 1 168 := ⟨by decide +kernel, rfl⟩
theorem eX7_choose_168 : Dc cX7_choose 168 (.getfield 59) 3 171 := ⟨by decide +kernel, rfl⟩
theorem eX7_choose_171 : Dc cX7_choose 171 (.iload 11) 2 173 := ⟨by decide +kernel, rfl⟩
theorem eX7_choose_173 : Dc cX7_choose 173 (.iaload) 1 174 := ⟨by decide +kernel, rfl⟩
theorem eX7_choose_174 : Dc cX7_choose 174 (.goto 5) 3 177 := ⟨by decide +kernel, rfl⟩
theorem eX7_choose_177 : Dc cX7_choose 177 (.iload 9) 2 179 := ⟨by decide +kernel, rfl⟩
theorem eX7_choose_179 : Dc cX7_choose 179 (.istore 9) 2 181 := ⟨by decide +kernel, rfl⟩
theorem eX7_choose_181 : Dc cX7_choose 181 (.iload 12) 2 183 := ⟨by decide +kernel, rfl⟩
theorem eX7_choose_183 : Dc cX7_choose 183 (.ifCond .eq 13) 3 186 := ⟨by decide +kernel, rfl⟩
theorem eX7_choose_186 : Dc cX7_choose 186 (.aload_n 0) 1 187 := ⟨by decide +kernel, rfl⟩
theorem eX7_choose_187 : Dc cX7_choose 187 (.getfield 56) 3 190 := ⟨by decide +kernel, rfl⟩
theorem eX7_choose_190 : Dc cX7_choose 190 (.iload 11) 2 192 := ⟨by decide +kernel, rfl⟩
theorem eX7_choose_192 : Dc cX7_choose 192 (.iaload) 1 193 := ⟨by decide +kernel, rfl⟩
theorem eX7_choose_193 : Dc cX7_choose 193 (.goto 5) 3 196 := ⟨by decide +kernel, rfl⟩
theorem eX7_choose_196 : Dc cX7_choose 196 (.iload 8) 2 198 := ⟨by decide +kernel, rfl⟩
theorem eX7_choose_198 : Dc cX7_choose 198 (.istore 8) 2 200 := ⟨by decide +kernel, rfl⟩
theorem eX7_choose_200 : Dc cX7_choose 200 (.iinc 10 1) 3 203 := ⟨by decide +kernel, rfl⟩
theorem eX7_choose_203 : Dc cX7_choose 203 (.goto (-132)) 3 206 := ⟨by decide +kernel, rfl⟩
theorem eX7_choose_206 : Dc cX7_choose 206 (.aload_n 0) 1 207 := ⟨by decide +kernel, rfl⟩
theorem eX7_choose_207 : Dc cX7_choose 207 (.getfield 56) 3 210 := ⟨by decide +kernel, rfl⟩
theorem eX7_choose_210 : Dc cX7_choose 210 (.iload 6) 2 212 := ⟨by decide +kernel, rfl⟩
theorem eX7_choose_212 : Dc cX7_choose 212 (.iload 8) 2 214 := ⟨by decide +kernel, rfl⟩
theorem eX7_choose_214 : Dc cX7_choose 214 (.iastore) 1 215 := ⟨by decide +kernel, rfl⟩
theorem eX7_choose_215 : Dc cX7_choose 215 (.aload_n 0) 1 216 := ⟨by decide +kernel, rfl⟩
theorem eX7_choose_216 : Dc cX7_choose 216 (.getfield 59) 3 219 := ⟨by decide +kernel, rfl⟩
theorem eX7_choose_219 : Dc cX7_choose 219 (.iload 6) 2 221 := ⟨by decide +kernel, rfl⟩
theorem eX7_choose_221 : Dc cX7_choose 221 (.iload 9) 2 223 := ⟨by decide +kernel, rfl⟩
theorem eX7_choose_223 : Dc cX7_choose 223 (.iastore) 1 224 := ⟨by decide +kernel, rfl⟩
theorem eX7_choose_224 : Dc cX7_choose 224 (.return_) 1 225 := ⟨by decide +kernel, rfl⟩
def fX7_choose_L71 (k : Int32 → Int32 → SS → Option (SS)) (a1 : Int32) (a2 : Int32) (a6 : Int32) : Nat → Int32 → Int32 → Int32 → SS → Option (SS)
  | 0, _, _, _, _ => none
  | n + 1, a8, a9, a10, c => if (c.1 0) ≤ a10 then k a8 a9 c else Option.bind (fX7_power a10) (fun q4 => Option.bind (fX7_canHold c a10) (fun q5 => jn (fun (x6 : Int32) => jn (fun (x7 : Int32) => jn (fun (x8 : Int32) => jn (fun (x9 : Int32) => fX7_choose_L71 k a1 a2 a6 n x9 x8 (a10 + (1 : Int32)) (sF c 26 x7)) (fun j198 => if x6 = (0 : Int32) then j198 a8 else ald 186624 (c.2 24) (((4 : Int32) * (a1 + q4)) + ((2 : Int32) * ((1 : Int32) - a2))) (fun v11 => j198 v11))) (fun j179 => if x6 = (0 : Int32) then j179 a9 else ald 186624 (c.2 25) (((4 : Int32) * (a1 + q4)) + ((2 : Int32) * ((1 : Int32) - a2))) (fun v13 => j179 v13))) (fun j159 => if x6 = (0 : Int32) then j159 (c.1 26) else j159 a10)) (fun j142 => jn (fun (_ : Unit) => j142 (0 : Int32)) (fun j141 => if q5 = (0 : Int32) then j141 () else jn (fun (_ : Unit) => j142 (1 : Int32)) (fun j137 => if a2 = (0 : Int32) then ald 186624 (c.2 24) (((4 : Int32) * (a1 + q4)) + ((2 : Int32) * ((1 : Int32) - a2))) (fun v19 => if v19 ≤ a8 then j141 () else j137 ()) else ald 186624 (c.2 25) (((4 : Int32) * (a1 + q4)) + ((2 : Int32) * ((1 : Int32) - a2))) (fun v17 => if v17 ≤ a9 then j141 () else j137 ()))))))
def fX7_choose (c : SS) (p1 : Int32) (p2 : Int32) (p3 : Int32) (p4 : Int32) (p5 : Int32) : Option (SS) := jn (fun (x1 : Int32) => jn (fun (x2 : Int32) => fX7_choose_L71 (fun (x21 : Int32) (x22 : Int32) (c23 : SS) => ckb 186624 ((((4 : Int32) * p1) + ((2 : Int32) * p2)) + p3) (ckb 186624 ((((4 : Int32) * p1) + ((2 : Int32) * p2)) + p3) (some (sA (sA c23 24 (((((4 : Int32) * p1) + ((2 : Int32) * p2)) + p3)).toNatClampNeg x21) 25 (((((4 : Int32) * p1) + ((2 : Int32) * p2)) + p3)).toNatClampNeg x22)))) p1 p2 ((((4 : Int32) * p1) + ((2 : Int32) * p2)) + p3) fu x1 x2 (0 : Int32) (sF c 26 (-6 : Int32))) (fun j60 => if p3 = (1 : Int32) then j60 p5 else ald 186624 (c.2 25) ((((4 : Int32) * p1) + ((2 : Int32) * ((1 : Int32) - p2))) + (1 : Int32)) (fun v27 => j60 v27))) (fun j41 => if p3 = (1 : Int32) then j41 p4 else ald 186624 (c.2 24) ((((4 : Int32) * p1) + ((2 : Int32) * ((1 : Int32) - p2))) + (1 : Int32)) (fun v29 => j41 v29))
set_option maxRecDepth 20000 in
theorem ctX7_choose_L71 (l : Launch) (G : tg_G) (A : Nat → Nat) (k : Int32 → Int32 → SS → Option (SS)) (a1 : Int32) (a2 : Int32) (a6 : Int32) {z : SS} (hk : ∀ (e8 : Int32) (e9 : Int32) (ec : SS), k e8 e9 ec = some z → V l G (tg_Zm G (fun v w1 => v = none ∧ w1 = wM G A z) 0 0) tg_E0 (tg_R 2 42) "TramGodModel" "choose" cX7_choose 13 none 206 [(0, .ref (A 0)), (6, .int a6), (8, .int e8), (9, .int e9)] [] (wM G A ec) 0 0) : ∀ (n : Nat) (a8 : Int32) (a9 : Int32) (a10 : Int32) (c : SS), fX7_choose_L71 k a1 a2 a6 n a8 a9 a10 c = some z → V l G (tg_Zm G (fun v w1 => v = none ∧ w1 = wM G A z) 0 0) tg_E0 (tg_R 2 42) "TramGodModel" "choose" cX7_choose 13 none 71 [(0, .ref (A 0)), (1, .int a1), (2, .int a2), (6, .int a6), (8, .int a8), (9, .int a9), (10, .int a10)] [] (wM G A c) 0 0 := by
  intro n
  induction n with
  | zero => intro a8 a9 a10 c h; exact absurd h (by simp [fX7_choose_L71])
  | succ n ih =>
    intro a8 a9 a10 c h
    unfold fX7_choose_L71 at h
    refine V_iload eX7_choose_71 6 rfl ?_
    refine V_aload_n eX7_choose_73 0 rfl ?_
    refine V_get (v := .int (c.1 0)) eX7_choose_74 inX7 0 rfl rfl 0 (Nat.le_of_ble_eq_true rfl) tw_645 rfl ?_
    refine V_icmp_ge (tgt := 206) eX7_choose_77 rfl (fun hb3 => ?_) (fun hb3 => ?_)
    · replace h := (if_pos hb3).symm.trans h
      refine V_lv (lv' := [(0, .ref (A 0)), (6, .int a6), (8, .int a8), (9, .int a9)]) [0, 3, 4, 5] rfl ?_
      exact hk a8 a9 c h
    · replace h := (if_neg hb3).symm.trans h
      refine V_iconst (v := (4 : Int32)) eX7_choose_80 rfl ?_
      refine V_iload_n eX7_choose_81 1 rfl ?_
      refine V_iload eX7_choose_82 6 rfl ?_
      obtain ⟨q4, hc4, h⟩ := Option.bind_eq_some_iff.mp h
      refine V_callSi (rest := [.int a1, .int (4 : Int32)]) eX7_choose_84 (ctX7_power l G _ a10 hc4) tc_922 tw_920 tw_8 tw_921 hdX7_power rfl ⟨Nat.le_of_ble_eq_true rfl, Nat.le_of_ble_eq_true rfl⟩ rfl (Nat.le_of_ble_eq_true rfl) ⟨Nat.zero_le _, Nat.zero_le _⟩ ?_
      refine V_iadd eX7_choose_87 ?_
      refine V_imul eX7_choose_88 ?_
      refine V_iconst (v := (2 : Int32)) eX7_choose_89 rfl ?_
      refine V_iconst (v := (1 : Int32)) eX7_choose_90 rfl ?_
      refine V_iload_n eX7_choose_91 2 rfl ?_
      refine V_isub eX7_choose_92 ?_
      refine V_imul eX7_choose_93 ?_
      refine V_iadd eX7_choose_94 ?_
      refine V_istore (lv' := [(11, .int (((4 : Int32) * (a1 + q4)) + ((2 : Int32) * ((1 : Int32) - a2)))), (0, .ref (A 0)), (1, .int a1), (2, .int a2), (6, .int a6), (8, .int a8), (9, .int a9), (10, .int a10)]) eX7_choose_95 (Nat.le_of_ble_eq_true rfl) rfl ?_
      refine V_aload_n eX7_choose_97 1 rfl ?_
      refine V_iload eX7_choose_98 7 rfl ?_
      obtain ⟨q5, hc5, h⟩ := Option.bind_eq_some_iff.mp h
      refine V_callVi (rest := []) eX7_choose_100 (ctX7_canHold l G A c a10 hc5) tc_938 tw_935 tw_8 tw_937 ts_42 0 rfl rfl hdX7_canHold rfl ⟨Nat.le_of_ble_eq_true rfl, Nat.le_of_ble_eq_true rfl⟩ rfl (Nat.le_of_ble_eq_true rfl) ⟨Nat.zero_le _, Nat.zero_le _⟩ ?_
      refine jn_elim h (fun j => ∀ (x6 : Int32), j x6 = some z → V l G (tg_Zm G (fun v w1 => v = none ∧ w1 = wM G A z) 0 0) tg_E0 (tg_R 2 42) "TramGodModel" "choose" cX7_choose 13 none 142 [(0, .ref (A 0)), (1, .int a1), (2, .int a2), (6, .int a6), (8, .int a8), (9, .int a9), (10, .int a10), (11, .int (((4 : Int32) * (a1 + q4)) + ((2 : Int32) * ((1 : Int32) - a2))))] [.int x6] (wM G A c) 0 0) ?_ (fun j142 hj142 h => ?_)
      · intro x6 h
        refine V_istore (lv' := [(12, .int x6), (0, .ref (A 0)), (1, .int a1), (2, .int a2), (6, .int a6), (8, .int a8), (9, .int a9), (10, .int a10), (11, .int (((4 : Int32) * (a1 + q4)) + ((2 : Int32) * ((1 : Int32) - a2))))]) eX7_choose_142 (Nat.le_of_ble_eq_true rfl) rfl ?_
        refine V_aload_n eX7_choose_144 1 rfl ?_
        refine V_iload eX7_choose_145 0 rfl ?_
        refine jn_elim h (fun j => ∀ (x7 : Int32), j x7 = some z → V l G (tg_Zm G (fun v w1 => v = none ∧ w1 = wM G A z) 0 0) tg_E0 (tg_R 2 42) "TramGodModel" "choose" cX7_choose 13 none 159 [(0, .ref (A 0)), (1, .int a1), (2, .int a2), (6, .int a6), (8, .int a8), (9, .int a9), (10, .int a10), (11, .int (((4 : Int32) * (a1 + q4)) + ((2 : Int32) * ((1 : Int32) - a2)))), (12, .int x6)] [.int x7, .ref (A 0)] (wM G A c) 0 0) ?_ (fun j159 hj159 h => ?_)
        · intro x7 h
          refine V_put (w' := wM G A (sF c 26 x7)) eX7_choose_159 inX7 tyX7 tyX7_ok nmX7 0 rfl rfl 26 (Nat.le_of_ble_eq_true rfl) tw_671 rfl rfl rfl rfl (Nat.le_of_ble_eq_true rfl) rfl ?_
          refine V_iload eX7_choose_162 8 rfl ?_
          refine jn_elim h (fun j => ∀ (x8 : Int32), j x8 = some z → V l G (tg_Zm G (fun v w1 => v = none ∧ w1 = wM G A z) 0 0) tg_E0 (tg_R 2 42) "TramGodModel" "choose" cX7_choose 13 none 179 [(0, .ref (A 0)), (1, .int a1), (2, .int a2), (6, .int a6), (8, .int a8), (10, .int a10), (11, .int (((4 : Int32) * (a1 + q4)) + ((2 : Int32) * ((1 : Int32) - a2)))), (12, .int x6)] [.int x8] (wM G A (sF c 26 x7)) 0 0) ?_ (fun j179 hj179 h => ?_)
          · intro x8 h
            refine V_istore (lv' := [(9, .int x8), (0, .ref (A 0)), (1, .int a1), (2, .int a2), (6, .int a6), (8, .int a8), (10, .int a10), (11, .int (((4 : Int32) * (a1 + q4)) + ((2 : Int32) * ((1 : Int32) - a2)))), (12, .int x6)]) eX7_choose_179 (Nat.le_of_ble_eq_true rfl) rfl ?_
            refine V_iload eX7_choose_181 8 rfl ?_
            refine jn_elim h (fun j => ∀ (x9 : Int32), j x9 = some z → V l G (tg_Zm G (fun v w1 => v = none ∧ w1 = wM G A z) 0 0) tg_E0 (tg_R 2 42) "TramGodModel" "choose" cX7_choose 13 none 198 [(0, .ref (A 0)), (1, .int a1), (2, .int a2), (6, .int a6), (9, .int x8), (10, .int a10)] [.int x9] (wM G A (sF c 26 x7)) 0 0) ?_ (fun j198 hj198 h => ?_)
            · intro x9 h
              refine V_istore (lv' := [(8, .int x9), (0, .ref (A 0)), (1, .int a1), (2, .int a2), (6, .int a6), (9, .int x8), (10, .int a10)]) eX7_choose_198 (Nat.le_of_ble_eq_true rfl) rfl ?_
              refine V_iinc (v := (a10 + (1 : Int32))) (lv' := [(10, .int (a10 + (1 : Int32))), (8, .int x9), (0, .ref (A 0)), (1, .int a1), (2, .int a2), (6, .int a6), (9, .int x8)]) eX7_choose_200 6 rfl rfl (Nat.le_of_ble_eq_true rfl) rfl ?_
              refine V_goto (tgt := 71) eX7_choose_203 rfl ?_
              refine V_lv (lv' := [(0, .ref (A 0)), (1, .int a1), (2, .int a2), (6, .int a6), (8, .int x9), (9, .int x8), (10, .int (a10 + (1 : Int32)))]) [2, 3, 4, 5, 1, 6, 0] rfl ?_
              exact ih x9 x8 (a10 + (1 : Int32)) (sF c 26 x7) h
            refine V_if_eq (tgt := 196) eX7_choose_183 rfl (fun hb10 => ?_) (fun hb10 => ?_)
            · replace h := (if_pos hb10).symm.trans h
              refine V_iload eX7_choose_196 5 rfl ?_
              refine V_lv (lv' := [(0, .ref (A 0)), (1, .int a1), (2, .int a2), (6, .int a6), (9, .int x8), (10, .int a10)]) [1, 2, 3, 4, 0, 6] rfl ?_
              exact hj198 a8 h
            · replace h := (if_neg hb10).symm.trans h
              refine V_aload_n eX7_choose_186 1 rfl ?_
              refine V_get (v := .ref (A 16)) eX7_choose_187 inX7 0 rfl rfl 24 (Nat.le_of_ble_eq_true rfl) tw_669 rfl ?_
              refine V_iload eX7_choose_190 7 rfl ?_
              obtain ⟨v11, hi11, ev11, h⟩ := ald_some h
              refine V_ialdv eX7_choose_192 16 rfl hi11 ev11 ?_
              refine V_goto (tgt := 198) eX7_choose_193 rfl ?_
              refine V_lv (lv' := [(0, .ref (A 0)), (1, .int a1), (2, .int a2), (6, .int a6), (9, .int x8), (10, .int a10)]) [1, 2, 3, 4, 0, 6] rfl ?_
              exact hj198 v11 h
          refine V_if_eq (tgt := 177) eX7_choose_164 rfl (fun hb12 => ?_) (fun hb12 => ?_)
          · replace h := (if_pos hb12).symm.trans h
            refine V_iload eX7_choose_177 5 rfl ?_
            refine V_lv (lv' := [(0, .ref (A 0)), (1, .int a1), (2, .int a2), (6, .int a6), (8, .int a8), (10, .int a10), (11, .int (((4 : Int32) * (a1 + q4)) + ((2 : Int32) * ((1 : Int32) - a2)))), (12, .int x6)]) [0, 1, 2, 3, 4, 6, 7, 8] rfl ?_
            exact hj179 a9 h
          · replace h := (if_neg hb12).symm.trans h
            refine V_aload_n eX7_choose_167 0 rfl ?_
            refine V_get (v := .ref (A 17)) eX7_choose_168 inX7 0 rfl rfl 25 (Nat.le_of_ble_eq_true rfl) tw_670 rfl ?_
            refine V_iload eX7_choose_171 7 rfl ?_
            obtain ⟨v13, hi13, ev13, h⟩ := ald_some h
            refine V_ialdv eX7_choose_173 17 rfl hi13 ev13 ?_
            refine V_goto (tgt := 179) eX7_choose_174 rfl ?_
            refine V_lv (lv' := [(0, .ref (A 0)), (1, .int a1), (2, .int a2), (6, .int a6), (8, .int a8), (10, .int a10), (11, .int (((4 : Int32) * (a1 + q4)) + ((2 : Int32) * ((1 : Int32) - a2)))), (12, .int x6)]) [0, 1, 2, 3, 4, 6, 7, 8] rfl ?_
            exact hj179 v13 h
        refine V_if_eq (tgt := 155) eX7_choose_147 rfl (fun hb14 => ?_) (fun hb14 => ?_)
        · replace h := (if_pos hb14).symm.trans h
          refine V_aload_n eX7_choose_155 1 rfl ?_
          refine V_get (v := .int (c.1 26)) eX7_choose_156 inX7 0 rfl rfl 26 (Nat.le_of_ble_eq_true rfl) tw_671 rfl ?_
          refine V_lv (lv' := [(0, .ref (A 0)), (1, .int a1), (2, .int a2), (6, .int a6), (8, .int a8), (9, .int a9), (10, .int a10), (11, .int (((4 : Int32) * (a1 + q4)) + ((2 : Int32) * ((1 : Int32) - a2)))), (12, .int x6)]) [1, 2, 3, 4, 5, 6, 7, 8, 0] rfl ?_
          exact hj159 (c.1 26) h
        · replace h := (if_neg hb14).symm.trans h
          refine V_iload eX7_choose_150 7 rfl ?_
          refine V_goto (tgt := 159) eX7_choose_152 rfl ?_
          refine V_lv (lv' := [(0, .ref (A 0)), (1, .int a1), (2, .int a2), (6, .int a6), (8, .int a8), (9, .int a9), (10, .int a10), (11, .int (((4 : Int32) * (a1 + q4)) + ((2 : Int32) * ((1 : Int32) - a2)))), (12, .int x6)]) [1, 2, 3, 4, 5, 6, 7, 8, 0] rfl ?_
          exact hj159 a10 h
      refine jn_elim h (fun j => j () = some z → V l G (tg_Zm G (fun v w1 => v = none ∧ w1 = wM G A z) 0 0) tg_E0 (tg_R 2 42) "TramGodModel" "choose" cX7_choose 13 none 141 [(0, .ref (A 0)), (1, .int a1), (2, .int a2), (6, .int a6), (8, .int a8), (9, .int a9), (10, .int a10), (11, .int (((4 : Int32) * (a1 + q4)) + ((2 : Int32) * ((1 : Int32) - a2))))] [] (wM G A c) 0 0) ?_ (fun j141 hj141 h => ?_)
      · intro h
        refine V_iconst (v := (0 : Int32)) eX7_choose_141 rfl ?_
        exact hj142 (0 : Int32) h
      refine V_if_eq (tgt := 141) eX7_choose_103 rfl (fun hb15 => ?_) (fun hb15 => ?_)
      · replace h := (if_pos hb15).symm.trans h
        refine V_lv (lv' := [(0, .ref (A 0)), (1, .int a1), (2, .int a2), (6, .int a6), (8, .int a8), (9, .int a9), (10, .int a10), (11, .int (((4 : Int32) * (a1 + q4)) + ((2 : Int32) * ((1 : Int32) - a2))))]) [1, 2, 3, 4, 5, 6, 7, 0] rfl ?_
        exact hj141 h
      · replace h := (if_neg hb15).symm.trans h
        refine V_iload_n eX7_choose_106 3 rfl ?_
        refine jn_elim h (fun j => j () = some z → V l G (tg_Zm G (fun v w1 => v = none ∧ w1 = wM G A z) 0 0) tg_E0 (tg_R 2 42) "TramGodModel" "choose" cX7_choose 13 none 137 [(0, .ref (A 0)), (1, .int a1), (2, .int a2), (6, .int a6), (8, .int a8), (9, .int a9), (10, .int a10), (11, .int (((4 : Int32) * (a1 + q4)) + ((2 : Int32) * ((1 : Int32) - a2))))] [] (wM G A c) 0 0) ?_ (fun j137 hj137 h => ?_)
        · intro h
          refine V_iconst (v := (1 : Int32)) eX7_choose_137 rfl ?_
          refine V_goto (tgt := 142) eX7_choose_138 rfl ?_
          exact hj142 (1 : Int32) h
        refine V_if_ne (tgt := 125) eX7_choose_107 rfl (fun hb16 => ?_) (fun hb16 => ?_)
        · replace h := (if_neg hb16).symm.trans h
          refine V_aload_n eX7_choose_125 1 rfl ?_
          refine V_get (v := .ref (A 17)) eX7_choose_126 inX7 0 rfl rfl 25 (Nat.le_of_ble_eq_true rfl) tw_670 rfl ?_
          refine V_iload eX7_choose_129 0 rfl ?_
          obtain ⟨v17, hi17, ev17, h⟩ := ald_some h
          refine V_ialdv eX7_choose_131 17 rfl hi17 ev17 ?_
          refine V_iload eX7_choose_132 6 rfl ?_
          refine V_icmp_le (tgt := 141) eX7_choose_134 rfl (fun hb18 => ?_) (fun hb18 => ?_)
          · replace h := (if_pos hb18).symm.trans h
            refine V_lv (lv' := [(0, .ref (A 0)), (1, .int a1), (2, .int a2), (6, .int a6), (8, .int a8), (9, .int a9), (10, .int a10), (11, .int (((4 : Int32) * (a1 + q4)) + ((2 : Int32) * ((1 : Int32) - a2))))]) [1, 2, 3, 4, 5, 6, 7, 0] rfl ?_
            exact hj141 h
          · replace h := (if_neg hb18).symm.trans h
            refine V_lv (lv' := [(0, .ref (A 0)), (1, .int a1), (2, .int a2), (6, .int a6), (8, .int a8), (9, .int a9), (10, .int a10), (11, .int (((4 : Int32) * (a1 + q4)) + ((2 : Int32) * ((1 : Int32) - a2))))]) [1, 2, 3, 4, 5, 6, 7, 0] rfl ?_
            exact hj137 h
        · replace h := (if_pos hb16).symm.trans h
          refine V_aload_n eX7_choose_110 1 rfl ?_
          refine V_get (v := .ref (A 16)) eX7_choose_111 inX7 0 rfl rfl 24 (Nat.le_of_ble_eq_true rfl) tw_669 rfl ?_
          refine V_iload eX7_choose_114 0 rfl ?_
          obtain ⟨v19, hi19, ev19, h⟩ := ald_some h
          refine V_ialdv eX7_choose_116 16 rfl hi19 ev19 ?_
          refine V_iload eX7_choose_117 5 rfl ?_
          refine V_icmp_le (tgt := 141) eX7_choose_119 rfl (fun hb20 => ?_) (fun hb20 => ?_)
          · replace h := (if_pos hb20).symm.trans h
            refine V_lv (lv' := [(0, .ref (A 0)), (1, .int a1), (2, .int a2), (6, .int a6), (8, .int a8), (9, .int a9), (10, .int a10), (11, .int (((4 : Int32) * (a1 + q4)) + ((2 : Int32) * ((1 : Int32) - a2))))]) [1, 2, 3, 4, 5, 6, 7, 0] rfl ?_
            exact hj141 h
          · replace h := (if_neg hb20).symm.trans h
            refine V_goto (tgt := 137) eX7_choose_122 rfl ?_
            refine V_lv (lv' := [(0, .ref (A 0)), (1, .int a1), (2, .int a2), (6, .int a6), (8, .int a8), (9, .int a9), (10, .int a10), (11, .int (((4 : Int32) * (a1 + q4)) + ((2 : Int32) * ((1 : Int32) - a2))))]) [1, 2, 3, 4, 5, 6, 7, 0] rfl ?_
            exact hj137 h
set_option maxRecDepth 20000 in
theorem ctX7_choose (l : Launch) (G : tg_G) (A : Nat → Nat) (c : SS) (p1 : Int32) (p2 : Int32) (p3 : Int32) (p4 : Int32) (p5 : Int32) {z : SS} (h : fX7_choose c p1 p2 p3 p4 p5 = some z) : Mt l G yX7_choose cX7_choose 13 none (tg_R 2 42) [.ref (A 0), .int p1, .int p2, .int p3, .int p4, .int p5] (wM G A c) (fun v w1 => v = none ∧ w1 = wM G A z) := by
  refine Mt_of2 (own := "TramGodModel") (nm := "choose") rfl rfl rfl (Nat.le_of_ble_eq_true rfl) (lv := [(0, .ref (A 0)), (1, .int p1), (2, .int p2), (3, .int p3), (4, .int p4), (5, .int p5)]) rfl ?_
  unfold fX7_choose at h
  refine V_iconst (v := (4 : Int32)) eX7_choose_0 rfl ?_
  refine V_iload_n eX7_choose_1 1 rfl ?_
  refine V_imul eX7_choose_2 ?_
  refine V_iconst (v := (2 : Int32)) eX7_choose_3 rfl ?_
  refine V_iload_n eX7_choose_4 2 rfl ?_
  refine V_imul eX7_choose_5 ?_
  refine V_iadd eX7_choose_6 ?_
  refine V_iload_n eX7_choose_7 3 rfl ?_
  refine V_iadd eX7_choose_8 ?_
  refine V_istore (lv' := [(6, .int ((((4 : Int32) * p1) + ((2 : Int32) * p2)) + p3)), (0, .ref (A 0)), (1, .int p1), (2, .int p2), (3, .int p3), (4, .int p4), (5, .int p5)]) eX7_choose_9 (Nat.le_of_ble_eq_true rfl) rfl ?_
  refine V_iconst (v := (4 : Int32)) eX7_choose_11 rfl ?_
  refine V_iload_n eX7_choose_12 2 rfl ?_
  refine V_imul eX7_choose_13 ?_
  refine V_iconst (v := (2 : Int32)) eX7_choose_14 rfl ?_
  refine V_iconst (v := (1 : Int32)) eX7_choose_15 rfl ?_
  refine V_iload_n eX7_choose_16 3 rfl ?_
  refine V_isub eX7_choose_17 ?_
  refine V_imul eX7_choose_18 ?_
  refine V_iadd eX7_choose_19 ?_
  refine V_iconst (v := (1 : Int32)) eX7_choose_20 rfl ?_
  refine V_iadd eX7_choose_21 ?_
  refine V_istore (lv' := [(7, .int ((((4 : Int32) * p1) + ((2 : Int32) * ((1 : Int32) - p2))) + (1 : Int32))), (6, .int ((((4 : Int32) * p1) + ((2 : Int32) * p2)) + p3)), (0, .ref (A 0)), (1, .int p1), (2, .int p2), (3, .int p3), (4, .int p4), (5, .int p5)]) eX7_choose_22 (Nat.le_of_ble_eq_true rfl) rfl ?_
  refine V_iload_n eX7_choose_24 5 rfl ?_
  refine V_iconst (v := (1 : Int32)) eX7_choose_25 rfl ?_
  refine jn_elim h (fun j => ∀ (x1 : Int32), j x1 = some z → V l G (tg_Zm G (fun v w1 => v = none ∧ w1 = wM G A z) 0 0) tg_E0 (tg_R 2 42) "TramGodModel" "choose" cX7_choose 13 none 41 [(0, .ref (A 0)), (1, .int p1), (2, .int p2), (3, .int p3), (5, .int p5), (6, .int ((((4 : Int32) * p1) + ((2 : Int32) * p2)) + p3)), (7, .int ((((4 : Int32) * p1) + ((2 : Int32) * ((1 : Int32) - p2))) + (1 : Int32)))] [.int x1] (wM G A c) 0 0) ?_ (fun j41 hj41 h => ?_)
  · intro x1 h
    refine V_istore (lv' := [(8, .int x1), (0, .ref (A 0)), (1, .int p1), (2, .int p2), (3, .int p3), (5, .int p5), (6, .int ((((4 : Int32) * p1) + ((2 : Int32) * p2)) + p3)), (7, .int ((((4 : Int32) * p1) + ((2 : Int32) * ((1 : Int32) - p2))) + (1 : Int32)))]) eX7_choose_41 (Nat.le_of_ble_eq_true rfl) rfl ?_
    refine V_iload_n eX7_choose_43 4 rfl ?_
    refine V_iconst (v := (1 : Int32)) eX7_choose_44 rfl ?_
    refine jn_elim h (fun j => ∀ (x2 : Int32), j x2 = some z → V l G (tg_Zm G (fun v w1 => v = none ∧ w1 = wM G A z) 0 0) tg_E0 (tg_R 2 42) "TramGodModel" "choose" cX7_choose 13 none 60 [(0, .ref (A 0)), (1, .int p1), (2, .int p2), (6, .int ((((4 : Int32) * p1) + ((2 : Int32) * p2)) + p3)), (8, .int x1)] [.int x2] (wM G A c) 0 0) ?_ (fun j60 hj60 h => ?_)
    · intro x2 h
      refine V_istore (lv' := [(9, .int x2), (0, .ref (A 0)), (1, .int p1), (2, .int p2), (6, .int ((((4 : Int32) * p1) + ((2 : Int32) * p2)) + p3)), (8, .int x1)]) eX7_choose_60 (Nat.le_of_ble_eq_true rfl) rfl ?_
      refine V_aload_n eX7_choose_62 1 rfl ?_
      refine V_bipush (v := (-6 : Int32)) eX7_choose_63 rfl ?_
      refine V_put (w' := wM G A (sF c 26 (-6 : Int32))) eX7_choose_65 inX7 tyX7 tyX7_ok nmX7 0 rfl rfl 26 (Nat.le_of_ble_eq_true rfl) tw_671 rfl rfl rfl rfl (Nat.le_of_ble_eq_true rfl) rfl ?_
      refine V_iconst (v := (0 : Int32)) eX7_choose_68 rfl ?_
      refine V_istore (lv' := [(10, .int (0 : Int32)), (9, .int x2), (0, .ref (A 0)), (1, .int p1), (2, .int p2), (6, .int ((((4 : Int32) * p1) + ((2 : Int32) * p2)) + p3)), (8, .int x1)]) eX7_choose_69 (Nat.le_of_ble_eq_true rfl) rfl ?_
      refine V_lv (lv' := [(0, .ref (A 0)), (1, .int p1), (2, .int p2), (6, .int ((((4 : Int32) * p1) + ((2 : Int32) * p2)) + p3)), (8, .int x1), (9, .int x2), (10, .int (0 : Int32))]) [2, 3, 4, 5, 6, 1, 0] rfl ?_
      refine ctX7_choose_L71 l G A _ p1 p2 ((((4 : Int32) * p1) + ((2 : Int32) * p2)) + p3) ?_ fu x1 x2 (0 : Int32) (sF c 26 (-6 : Int32)) h
      · intro x21 x22 c23 h
        refine V_aload_n eX7_choose_206 0 rfl ?_
        refine V_get (v := .ref (A 16)) eX7_choose_207 inX7 0 rfl rfl 24 (Nat.le_of_ble_eq_true rfl) tw_669 rfl ?_
        refine V_iload eX7_choose_210 1 rfl ?_
        refine V_iload eX7_choose_212 2 rfl ?_
        obtain ⟨hi24, h⟩ := ckb_some h
        refine V_iast (w' := wM G A (sA c23 24 (((((4 : Int32) * p1) + ((2 : Int32) * p2)) + p3)).toNatClampNeg x21)) eX7_choose_214 16 rfl hi24 rfl ?_
        refine V_aload_n eX7_choose_215 0 rfl ?_
        refine V_get (v := .ref (A 17)) eX7_choose_216 inX7 0 rfl rfl 25 (Nat.le_of_ble_eq_true rfl) tw_670 rfl ?_
        refine V_iload eX7_choose_219 1 rfl ?_
        refine V_iload eX7_choose_221 3 rfl ?_
        obtain ⟨hi25, h⟩ := ckb_some h
        refine V_iast (w' := wM G A (sA (sA c23 24 (((((4 : Int32) * p1) + ((2 : Int32) * p2)) + p3)).toNatClampNeg x21) 25 (((((4 : Int32) * p1) + ((2 : Int32) * p2)) + p3)).toNatClampNeg x22)) eX7_choose_223 17 rfl hi25 rfl ?_
        obtain rfl := Option.some.inj h
        exact V_vret eX7_choose_224 rfl ⟨rfl, rfl⟩
    refine V_icmp_ne (tgt := 53) eX7_choose_45 rfl (fun hb26 => ?_) (fun hb26 => ?_)
    · replace h := (if_neg hb26).symm.trans h
      refine V_aload_n eX7_choose_53 1 rfl ?_
      refine V_get (v := .ref (A 17)) eX7_choose_54 inX7 0 rfl rfl 25 (Nat.le_of_ble_eq_true rfl) tw_670 rfl ?_
      refine V_iload eX7_choose_57 7 rfl ?_
      obtain ⟨v27, hi27, ev27, h⟩ := ald_some h
      refine V_ialdv eX7_choose_59 17 rfl hi27 ev27 ?_
      refine V_lv (lv' := [(0, .ref (A 0)), (1, .int p1), (2, .int p2), (6, .int ((((4 : Int32) * p1) + ((2 : Int32) * p2)) + p3)), (8, .int x1)]) [1, 2, 3, 6, 0] rfl ?_
      exact hj60 v27 h
    · replace h := (if_pos hb26).symm.trans h
      refine V_iload eX7_choose_48 5 rfl ?_
      refine V_goto (tgt := 60) eX7_choose_50 rfl ?_
      refine V_lv (lv' := [(0, .ref (A 0)), (1, .int p1), (2, .int p2), (6, .int ((((4 : Int32) * p1) + ((2 : Int32) * p2)) + p3)), (8, .int x1)]) [1, 2, 3, 6, 0] rfl ?_
      exact hj60 p5 h
  refine V_icmp_ne (tgt := 34) eX7_choose_26 rfl (fun hb28 => ?_) (fun hb28 => ?_)
  · replace h := (if_neg hb28).symm.trans h
    refine V_aload_n eX7_choose_34 2 rfl ?_
    refine V_get (v := .ref (A 16)) eX7_choose_35 inX7 0 rfl rfl 24 (Nat.le_of_ble_eq_true rfl) tw_669 rfl ?_
    refine V_iload eX7_choose_38 0 rfl ?_
    obtain ⟨v29, hi29, ev29, h⟩ := ald_some h
    refine V_ialdv eX7_choose_40 16 rfl hi29 ev29 ?_
    refine V_lv (lv' := [(0, .ref (A 0)), (1, .int p1), (2, .int p2), (3, .int p3), (5, .int p5), (6, .int ((((4 : Int32) * p1) + ((2 : Int32) * p2)) + p3)), (7, .int ((((4 : Int32) * p1) + ((2 : Int32) * ((1 : Int32) - p2))) + (1 : Int32)))]) [2, 3, 4, 5, 7, 1, 0] rfl ?_
    exact hj41 v29 h
  · replace h := (if_pos hb28).symm.trans h
    refine V_iload eX7_choose_29 6 rfl ?_
    refine V_goto (tgt := 41) eX7_choose_31 rfl ?_
    refine V_lv (lv' := [(0, .ref (A 0)), (1, .int p1), (2, .int p2), (3, .int p3), (5, .int p5), (6, .int ((((4 : Int32) * p1) + ((2 : Int32) * p2)) + p3)), (7, .int ((((4 : Int32) * p1) + ((2 : Int32) * ((1 : Int32) - p2))) + (1 : Int32)))]) [2, 3, 4, 5, 7, 1, 0] rfl ?_
    exact hj41 p4 h
theorem hdX7_settle : yX7_settle.cls ≠ "java/lang/invoke/MethodHandle" ∧ yX7_settle.cls ≠ "java/lang/invoke/VarHandle" ∧ (parseMethodDescriptor yX7_settle.desc).map (fun d => d.parameters.length) = some 1 := by decide +kernel
theorem eX7_settle_0 : Dc cX7_settle 0 (.aload_n 0) 1 1 := ⟨by decide +kernel, rfl⟩
theorem eX7_settle_1 : Dc cX7_settle 1 (.invokevirtual 157) 3 4 := ⟨by decide +kernel, rfl⟩
theorem eX7_settle_4 : Dc cX7_settle 4 (.istore_n 2) 1 5 := ⟨by decide +kernel, rfl⟩
theorem eX7_settle_5 : Dc cX7_settle 5 (.aload_n 0) 1 6 := ⟨by decide +kernel, rfl⟩
theorem eX7_settle_6 : Dc cX7_settle 6 (.iload_n 2) 1 7 := ⟨by decide +kernel, rfl⟩
theorem eX7_settle_7 : Dc cX7_settle 7 (.sipush 255) 3 10 := ⟨by decide +kernel, rfl⟩
theorem eX7_settle_10 : Dc cX7_settle 10 (.invokevirtual 161) 3 13 := ⟨by decide +kernel, rfl⟩
theorem eX7_settle_13 : Dc cX7_settle 13 (.istore_n 3) 1 14 := ⟨by decide +kernel, rfl⟩
theorem eX7_settle_14 : Dc cX7_settle 14 (.aload_n 0) 1 15 := ⟨by decide +kernel, rfl⟩
theorem eX7_settle_15 : Dc cX7_settle 15 (.iload_n 2) 1 16 := ⟨by decide +kernel, rfl⟩
theorem eX7_settle_16 : Dc cX7_settle 16 (.invokevirtual 164) 3 19 := ⟨by decide +kernel, rfl⟩
theorem eX7_settle_19 : Dc cX7_settle 19 (.istore 4) 2 21 := ⟨by decide +kernel, rfl⟩
theorem eX7_settle_21 : Dc cX7_settle 21 (.aload_n 0) 1 22 := ⟨by decide +kernel, rfl⟩
theorem eX7_settle_22 : Dc cX7_settle 22 (.invokevirtual 207) 3 25 := ⟨by decide +kernel, rfl⟩
theorem eX7_settle_25 : Dc cX7_settle 25 (.ifCond .ne 50) 3 28 := ⟨by decide +kernel, rfl⟩
theorem eX7_settle_28 : Dc cX7_settle 28 (.iconst 0) 1 29 := ⟨by decide +kernel, rfl⟩
theorem eX7_settle_29 : Dc cX7_settle 29 (.istore 5) 2 31 := ⟨by decide +kernel, rfl⟩
theorem eX7_settle_31 : Dc cX7_settle 31 (.iload 5) 2 33 := ⟨by decide +kernel, rfl⟩
theorem eX7_settle_33 : Dc cX7_settle 33 (.iconst 4) 1 34 := ⟨by decide +kernel, rfl⟩
theorem eX7_settle_34 : Dc cX7_settle 34 (.if_icmp .ge 34) 3 37 := ⟨by decide +kernel, rfl⟩
theorem eX7_settle_37 : Dc cX7_settle 37 (.aload_n 0) 1 38 := ⟨by decide +kernel, rfl⟩
theorem eX7_settle_38 : Dc cX7_settle 38 (.getfield 56) 3 41 := ⟨by decide +kernel, rfl⟩
theorem eX7_settle_41 : Dc cX7_settle 41 (.iconst 4) 1 42 := ⟨by decide +kernel, rfl⟩
theorem eX7_settle_42 : Dc cX7_settle 42 (.iload_n 1) 1 43 := ⟨by decide +kernel, rfl⟩
theorem eX7_settle_43 : Dc cX7_settle 43 (.imul) 1 44 := ⟨by decide +kernel, rfl⟩
theorem eX7_settle_44 : Dc cX7_settle 44 (.iload 5) 2 46 := ⟨by decide +kernel, rfl⟩
theorem eX7_settle_46 : Dc cX7_settle 46 (.iadd) 1 47 := ⟨by decide +kernel, rfl⟩
theorem eX7_settle_47 : Dc cX7_settle 47 (.iload_n 3) 1 48 := ⟨by decide +kernel, rfl⟩
theorem eX7_settle_48 : Dc cX7_settle 48 (.iastore) 1 49 := ⟨by decide +kernel, rfl⟩
theorem eX7_settle_49 : Dc cX7_settle 49 (.aload_n 0) 1 50 := ⟨by decide +kernel, rfl⟩
theorem eX7_settle_50 : Dc cX7_settle 50 (.getfield 59) 3 53 := ⟨by decide +kernel, rfl⟩
theorem eX7_settle_53 : Dc cX7_settle 53 (.iconst 4) 1 54 := ⟨by decide +kernel, rfl⟩
theorem eX7_settle_54 : Dc cX7_settle 54 (.iload_n 1) 1 55 := ⟨by decide +kernel, rfl⟩
theorem eX7_settle_55 : Dc cX7_settle 55 (.imul) 1 56 := ⟨by decide +kernel, rfl⟩
theorem eX7_settle_56 : Dc cX7_settle 56 (.iload 5) 2 58 := ⟨by decide +kernel, rfl⟩
theorem eX7_settle_58 : Dc cX7_settle 58 (.iadd) 1 59 := ⟨by decide +kernel, rfl⟩
theorem eX7_settle_59 : Dc cX7_settle 59 (.iload 4) 2 61 := ⟨by decide +kernel, rfl⟩
theorem eX7_settle_61 : Dc cX7_settle 61 (.iastore) 1 62 := ⟨by decide +kernel, rfl⟩
theorem eX7_settle_62 : Dc cX7_settle 62 (.iinc 5 1) 3 65 := ⟨by decide +kernel, rfl⟩
theorem eX7_settle_65 : Dc cX7_settle 65 (.goto (-34)) 3 68 := ⟨by decide +kernel, rfl⟩
theorem eX7_settle_68 : Dc cX7_settle 68 (.aload_n 0) 1 69 := ⟨by decide +kernel, rfl⟩
theorem eX7_settle_69 : Dc cX7_settle 69 (.bipush (-6)) 2 71 := ⟨by decide +kernel, rfl⟩
theorem eX7_settle_71 : Dc cX7_settle 71 (.putfield 201) 3 74 := ⟨by decide +kernel, rfl⟩
theorem eX7_settle_74 : Dc cX7_settle 74 (.return_) 1 75 := ⟨by decide +kernel, rfl⟩
theorem eX7_settle_75 : Dc cX7_settle 75 (.aload_n 0) 1 76 := ⟨by decide +kernel, rfl⟩
theorem eX7_settle_76 : Dc cX7_settle 76 (.iload_n 1) 1 77 := ⟨by decide +kernel, rfl⟩
theorem eX7_settle_77 : Dc cX7_settle 77 (.iconst 0) 1 78 := ⟨by decide +kernel, rfl⟩
theorem eX7_settle_78 : Dc cX7_settle 78 (.iconst 1) 1 79 := ⟨by decide +kernel, rfl⟩
theorem eX7_settle_79 : Dc cX7_settle 79 (.iload_n 3) 1 80 := ⟨by decide +kernel, rfl⟩
theorem eX7_settle_80 : Dc cX7_settle 80 (.iload 4) 2 82 := ⟨by decide +kernel, rfl⟩
theorem eX7_settle_82 : Dc cX7_settle 82 (.invokevirtual 210) 3 85 := ⟨by decide +kernel, rfl⟩
theorem eX7_settle_85 : Dc cX7_settle 85 (.aload_n 0) 1 86 := ⟨by decide +kernel, rfl⟩
theorem eX7_settle_86 : Dc cX7_settle 86 (.iload_n 1) 1 87 := ⟨by decide +kernel, rfl⟩
theorem eX7_settle_87 : Dc cX7_settle 87 (.iconst 1) 1 88 := ⟨by decide +kernel, rfl⟩
theorem eX7_settle_88 : Dc cX7_settle 88 (.iconst 1) 1 89 := ⟨by decide +kernel, rfl⟩
theorem eX7_settle_89 : Dc cX7_settle 89 (.iload_n 3) 1 90 := ⟨by decide +kernel, rfl⟩
theorem eX7_settle_90 : Dc cX7_settle 90 (.iload 4) 2 92 := ⟨by decide +kernel, rfl⟩
theorem eX7_settle_92 : Dc cX7_settle 92 (.invokevirtual 210) 3 95 := ⟨by decide +kernel, rfl⟩
theorem eX7_settle_95 : Dc cX7_settle 95 (.aload_n 0) 1 96 := ⟨by decide +kernel, rfl⟩
theorem eX7_settle_96 : Dc cX7_settle 96 (.iload_n 1) 1 97 := ⟨by decide +kernel, rfl⟩
theorem eX7_settle_97 : Dc cX7_settle 97 (.iconst 1) 1 98 := ⟨by decide +kernel, rfl⟩
theorem eX7_settle_98 : Dc cX7_settle 98 (.iconst 0) 1 99 := ⟨by decide +kernel, rfl⟩
theorem eX7_settle_99 : Dc cX7_settle 99 (.iload_n 3) 1 100 := ⟨by decide +kernel, rfl⟩
theorem eX7_settle_100 : Dc cX7_settle 100 (.iload 4) 2 102 := ⟨by decide +kernel, rfl⟩
theorem eX7_settle_102 : Dc cX7_settle 102 (.invokevirtual 210) 3 105 := ⟨by decide +kernel, rfl⟩
theorem eX7_settle_105 : Dc cX7_settle 105 (.aload_n 0) 1 106 := ⟨by decide +kernel, rfl⟩
theorem eX7_settle_106 : Dc cX7_settle 106 (.iload_n 1) 1 107 := ⟨by decide +kernel, rfl⟩
theorem eX7_settle_107 : Dc cX7_settle 107 (.iconst 0) 1 108 := ⟨by decide +kernel, rfl⟩
theorem eX7_settle_108 : Dc cX7_settle 108 (.iconst 0) 1 109 := ⟨by decide +kernel, rfl⟩
theorem eX7_settle_109 : Dc cX7_settle 109 (.iload_n 3) 1 110 := ⟨by decide +kernel, rfl⟩
theorem eX7_settle_110 : Dc cX7_settle 110 (.iload 4) 2 112 := ⟨by decide +kernel, rfl⟩
theorem eX7_settle_112 : Dc cX7_settle 112 (.invokevirtual 210) 3 115 := ⟨by decide +kernel, rfl⟩
theorem eX7_settle_115 : Dc cX7_settle 115 (.return_) 1 116 := ⟨by decide +kernel, rfl⟩
def fX7_settle_L31 (k : SS → Option (SS)) (a1 : Int32) (a3 : Int32) (a4 : Int32) : Nat → Int32 → SS → Option (SS)
  | 0, _, _ => none
  | n + 1, a5, c => if (4 : Int32) ≤ a5 then k c else ckb 186624 (((4 : Int32) * a1) + a5) (ckb 186624 (((4 : Int32) * a1) + a5) (fX7_settle_L31 k a1 a3 a4 n (a5 + (1 : Int32)) (sA (sA c 24 ((((4 : Int32) * a1) + a5)).toNatClampNeg a3) 25 ((((4 : Int32) * a1) + a5)).toNatClampNeg a4)))
def fX7_settle (c : SS) (p1 : Int32) : Option (SS) := Option.bind (fX7_ridersNow c) (fun q1 => Option.bind (fX7_goodOf q1.2 q1.1 (255 : Int32)) (fun q2 => Option.bind (fX7_othersOf q1.2 q1.1) (fun q3 => Option.bind (fX7_canHoldAny q1.2) (fun q4 => if q4 = (0 : Int32) then fX7_settle_L31 (fun (c13 : SS) => some (sF c13 26 (-6 : Int32))) p1 q2 q3 fu (0 : Int32) q1.2 else Option.bind (fX7_choose q1.2 p1 (0 : Int32) (1 : Int32) q2 q3) (fun q6 => Option.bind (fX7_choose q6 p1 (1 : Int32) (1 : Int32) q2 q3) (fun q7 => Option.bind (fX7_choose q7 p1 (1 : Int32) (0 : Int32) q2 q3) (fun q8 => Option.bind (fX7_choose q8 p1 (0 : Int32) (0 : Int32) q2 q3) (fun q9 => some q9))))))))
set_option maxRecDepth 20000 in
theorem ctX7_settle_L31 (l : Launch) (G : tg_G) (A : Nat → Nat) (k : SS → Option (SS)) (a1 : Int32) (a3 : Int32) (a4 : Int32) {z : SS} (hk : ∀ (ec : SS), k ec = some z → V l G (tg_Zm G (fun v w1 => v = none ∧ w1 = wM G A z) 0 0) tg_E0 (tg_R 3 74) "TramGodModel" "settle" cX7_settle 6 none 68 [(0, .ref (A 0))] [] (wM G A ec) 0 0) : ∀ (n : Nat) (a5 : Int32) (c : SS), fX7_settle_L31 k a1 a3 a4 n a5 c = some z → V l G (tg_Zm G (fun v w1 => v = none ∧ w1 = wM G A z) 0 0) tg_E0 (tg_R 3 74) "TramGodModel" "settle" cX7_settle 6 none 31 [(0, .ref (A 0)), (1, .int a1), (3, .int a3), (4, .int a4), (5, .int a5)] [] (wM G A c) 0 0 := by
  intro n
  induction n with
  | zero => intro a5 c h; exact absurd h (by simp [fX7_settle_L31])
  | succ n ih =>
    intro a5 c h
    unfold fX7_settle_L31 at h
    refine V_iload eX7_settle_31 4 rfl ?_
    refine V_iconst (v := (4 : Int32)) eX7_settle_33 rfl ?_
    refine V_icmp_ge (tgt := 68) eX7_settle_34 rfl (fun hb10 => ?_) (fun hb10 => ?_)
    · replace h := (if_pos hb10).symm.trans h
      refine V_lv (lv' := [(0, .ref (A 0))]) [0] rfl ?_
      exact hk c h
    · replace h := (if_neg hb10).symm.trans h
      refine V_aload_n eX7_settle_37 0 rfl ?_
      refine V_get (v := .ref (A 16)) eX7_settle_38 inX7 0 rfl rfl 24 (Nat.le_of_ble_eq_true rfl) tw_669 rfl ?_
      refine V_iconst (v := (4 : Int32)) eX7_settle_41 rfl ?_
      refine V_iload_n eX7_settle_42 1 rfl ?_
      refine V_imul eX7_settle_43 ?_
      refine V_iload eX7_settle_44 4 rfl ?_
      refine V_iadd eX7_settle_46 ?_
      refine V_iload_n eX7_settle_47 2 rfl ?_
      obtain ⟨hi11, h⟩ := ckb_some h
      refine V_iast (w' := wM G A (sA c 24 ((((4 : Int32) * a1) + a5)).toNatClampNeg a3)) eX7_settle_48 16 rfl hi11 rfl ?_
      refine V_aload_n eX7_settle_49 0 rfl ?_
      refine V_get (v := .ref (A 17)) eX7_settle_50 inX7 0 rfl rfl 25 (Nat.le_of_ble_eq_true rfl) tw_670 rfl ?_
      refine V_iconst (v := (4 : Int32)) eX7_settle_53 rfl ?_
      refine V_iload_n eX7_settle_54 1 rfl ?_
      refine V_imul eX7_settle_55 ?_
      refine V_iload eX7_settle_56 4 rfl ?_
      refine V_iadd eX7_settle_58 ?_
      refine V_iload eX7_settle_59 3 rfl ?_
      obtain ⟨hi12, h⟩ := ckb_some h
      refine V_iast (w' := wM G A (sA (sA c 24 ((((4 : Int32) * a1) + a5)).toNatClampNeg a3) 25 ((((4 : Int32) * a1) + a5)).toNatClampNeg a4)) eX7_settle_61 17 rfl hi12 rfl ?_
      refine V_iinc (v := (a5 + (1 : Int32))) (lv' := [(5, .int (a5 + (1 : Int32))), (0, .ref (A 0)), (1, .int a1), (3, .int a3), (4, .int a4)]) eX7_settle_62 4 rfl rfl (Nat.le_of_ble_eq_true rfl) rfl ?_
      refine V_goto (tgt := 31) eX7_settle_65 rfl ?_
      refine V_lv (lv' := [(0, .ref (A 0)), (1, .int a1), (3, .int a3), (4, .int a4), (5, .int (a5 + (1 : Int32)))]) [1, 2, 3, 4, 0] rfl ?_
      exact ih (a5 + (1 : Int32)) (sA (sA c 24 ((((4 : Int32) * a1) + a5)).toNatClampNeg a3) 25 ((((4 : Int32) * a1) + a5)).toNatClampNeg a4) h
set_option maxRecDepth 20000 in
theorem ctX7_settle (l : Launch) (G : tg_G) (A : Nat → Nat) (c : SS) (p1 : Int32) {z : SS} (h : fX7_settle c p1 = some z) : Mt l G yX7_settle cX7_settle 6 none (tg_R 3 74) [.ref (A 0), .int p1] (wM G A c) (fun v w1 => v = none ∧ w1 = wM G A z) := by
  refine Mt_of2 (own := "TramGodModel") (nm := "settle") rfl rfl rfl (Nat.le_of_ble_eq_true rfl) (lv := [(0, .ref (A 0)), (1, .int p1)]) rfl ?_
  unfold fX7_settle at h
  refine V_aload_n eX7_settle_0 0 rfl ?_
  obtain ⟨q1, hc1, h⟩ := Option.bind_eq_some_iff.mp h
  refine V_callVi (rest := []) eX7_settle_1 (ctX7_ridersNow l G A c hc1) tc_830 tw_827 tw_8 tw_829 ts_26 0 rfl rfl hdX7_ridersNow rfl ⟨Nat.le_of_ble_eq_true rfl, Nat.le_of_ble_eq_true rfl⟩ rfl (Nat.le_of_ble_eq_true rfl) ⟨Nat.zero_le _, Nat.zero_le _⟩ ?_
  refine V_istore_n (lv' := [(2, .int q1.1), (0, .ref (A 0)), (1, .int p1)]) eX7_settle_4 (Nat.le_of_ble_eq_true rfl) rfl ?_
  refine V_aload_n eX7_settle_5 1 rfl ?_
  refine V_iload_n eX7_settle_6 0 rfl ?_
  refine V_sipush (v := (255 : Int32)) eX7_settle_7 rfl ?_
  obtain ⟨q2, hc2, h⟩ := Option.bind_eq_some_iff.mp h
  refine V_callVi (rest := []) eX7_settle_10 (ctX7_goodOf l G A q1.2 q1.1 (255 : Int32) hc2) tc_846 tw_843 tw_8 tw_845 ts_29 0 rfl rfl hdX7_goodOf rfl ⟨Nat.le_of_ble_eq_true rfl, Nat.le_of_ble_eq_true rfl⟩ rfl (Nat.le_of_ble_eq_true rfl) ⟨Nat.zero_le _, Nat.zero_le _⟩ ?_
  refine V_istore_n (lv' := [(3, .int q2), (2, .int q1.1), (0, .ref (A 0)), (1, .int p1)]) eX7_settle_13 (Nat.le_of_ble_eq_true rfl) rfl ?_
  refine V_aload_n eX7_settle_14 2 rfl ?_
  refine V_iload_n eX7_settle_15 1 rfl ?_
  obtain ⟨q3, hc3, h⟩ := Option.bind_eq_some_iff.mp h
  refine V_callVi (rest := []) eX7_settle_16 (ctX7_othersOf l G A q1.2 q1.1 hc3) tc_850 tw_847 tw_8 tw_849 ts_30 0 rfl rfl hdX7_othersOf rfl ⟨Nat.le_of_ble_eq_true rfl, Nat.le_of_ble_eq_true rfl⟩ rfl (Nat.le_of_ble_eq_true rfl) ⟨Nat.zero_le _, Nat.zero_le _⟩ ?_
  refine V_istore (lv' := [(4, .int q3), (3, .int q2), (2, .int q1.1), (0, .ref (A 0)), (1, .int p1)]) eX7_settle_19 (Nat.le_of_ble_eq_true rfl) rfl ?_
  refine V_aload_n eX7_settle_21 3 rfl ?_
  obtain ⟨q4, hc4, h⟩ := Option.bind_eq_some_iff.mp h
  refine V_callVi (rest := []) eX7_settle_22 (ctX7_canHoldAny l G A q1.2 hc4) tc_934 tw_931 tw_8 tw_933 ts_41 0 rfl rfl hdX7_canHoldAny rfl ⟨Nat.le_of_ble_eq_true rfl, Nat.le_of_ble_eq_true rfl⟩ rfl (Nat.le_of_ble_eq_true rfl) ⟨Nat.zero_le _, Nat.zero_le _⟩ ?_
  refine V_if_ne (tgt := 75) eX7_settle_25 rfl (fun hb5 => ?_) (fun hb5 => ?_)
  · replace h := (if_neg hb5).symm.trans h
    refine V_aload_n eX7_settle_75 3 rfl ?_
    refine V_iload_n eX7_settle_76 4 rfl ?_
    refine V_iconst (v := (0 : Int32)) eX7_settle_77 rfl ?_
    refine V_iconst (v := (1 : Int32)) eX7_settle_78 rfl ?_
    refine V_iload_n eX7_settle_79 1 rfl ?_
    refine V_iload eX7_settle_80 0 rfl ?_
    obtain ⟨q6, hc6, h⟩ := Option.bind_eq_some_iff.mp h
    refine V_callVv (rest := []) eX7_settle_82 (ctX7_choose l G A q1.2 p1 (0 : Int32) (1 : Int32) q2 q3 hc6) tc_942 tw_939 tw_8 tw_941 ts_43 0 rfl rfl hdX7_choose rfl ⟨Nat.le_of_ble_eq_true rfl, Nat.le_of_ble_eq_true rfl⟩ rfl (Nat.le_of_ble_eq_true rfl) ⟨Nat.zero_le _, Nat.zero_le _⟩ ?_
    refine V_aload_n eX7_settle_85 3 rfl ?_
    refine V_iload_n eX7_settle_86 4 rfl ?_
    refine V_iconst (v := (1 : Int32)) eX7_settle_87 rfl ?_
    refine V_iconst (v := (1 : Int32)) eX7_settle_88 rfl ?_
    refine V_iload_n eX7_settle_89 1 rfl ?_
    refine V_iload eX7_settle_90 0 rfl ?_
    obtain ⟨q7, hc7, h⟩ := Option.bind_eq_some_iff.mp h
    refine V_callVv (rest := []) eX7_settle_92 (ctX7_choose l G A q6 p1 (1 : Int32) (1 : Int32) q2 q3 hc7) tc_942 tw_939 tw_8 tw_941 ts_43 0 rfl rfl hdX7_choose rfl ⟨Nat.le_of_ble_eq_true rfl, Nat.le_of_ble_eq_true rfl⟩ rfl (Nat.le_of_ble_eq_true rfl) ⟨Nat.zero_le _, Nat.zero_le _⟩ ?_
    refine V_aload_n eX7_settle_95 3 rfl ?_
    refine V_iload_n eX7_settle_96 4 rfl ?_
    refine V_iconst (v := (1 : Int32)) eX7_settle_97 rfl ?_
    refine V_iconst (v := (0 : Int32)) eX7_settle_98 rfl ?_
    refine V_iload_n eX7_settle_99 1 rfl ?_
    refine V_iload eX7_settle_100 0 rfl ?_
    obtain ⟨q8, hc8, h⟩ := Option.bind_eq_some_iff.mp h
    refine V_callVv (rest := []) eX7_settle_102 (ctX7_choose l G A q7 p1 (1 : Int32) (0 : Int32) q2 q3 hc8) tc_942 tw_939 tw_8 tw_941 ts_43 0 rfl rfl hdX7_choose rfl ⟨Nat.le_of_ble_eq_true rfl, Nat.le_of_ble_eq_true rfl⟩ rfl (Nat.le_of_ble_eq_true rfl) ⟨Nat.zero_le _, Nat.zero_le _⟩ ?_
    refine V_aload_n eX7_settle_105 3 rfl ?_
    refine V_iload_n eX7_settle_106 4 rfl ?_
    refine V_iconst (v := (0 : Int32)) eX7_settle_107 rfl ?_
    refine V_iconst (v := (0 : Int32)) eX7_settle_108 rfl ?_
    refine V_iload_n eX7_settle_109 1 rfl ?_
    refine V_iload eX7_settle_110 0 rfl ?_
    obtain ⟨q9, hc9, h⟩ := Option.bind_eq_some_iff.mp h
    refine V_callVv (rest := []) eX7_settle_112 (ctX7_choose l G A q8 p1 (0 : Int32) (0 : Int32) q2 q3 hc9) tc_942 tw_939 tw_8 tw_941 ts_43 0 rfl rfl hdX7_choose rfl ⟨Nat.le_of_ble_eq_true rfl, Nat.le_of_ble_eq_true rfl⟩ rfl (Nat.le_of_ble_eq_true rfl) ⟨Nat.zero_le _, Nat.zero_le _⟩ ?_
    obtain rfl := Option.some.inj h
    exact V_vret eX7_settle_115 rfl ⟨rfl, rfl⟩
  · replace h := (if_pos hb5).symm.trans h
    refine V_iconst (v := (0 : Int32)) eX7_settle_28 rfl ?_
    refine V_istore (lv' := [(5, .int (0 : Int32)), (4, .int q3), (3, .int q2), (2, .int q1.1), (0, .ref (A 0)), (1, .int p1)]) eX7_settle_29 (Nat.le_of_ble_eq_true rfl) rfl ?_
    refine V_lv (lv' := [(0, .ref (A 0)), (1, .int p1), (3, .int q2), (4, .int q3), (5, .int (0 : Int32))]) [4, 5, 2, 1, 0] rfl ?_
    refine ctX7_settle_L31 l G A _ p1 q2 q3 ?_ fu (0 : Int32) q1.2 h
    · intro c13 h
      refine V_aload_n eX7_settle_68 0 rfl ?_
      refine V_bipush (v := (-6 : Int32)) eX7_settle_69 rfl ?_
      refine V_put (w' := wM G A (sF c13 26 (-6 : Int32))) eX7_settle_71 inX7 tyX7 tyX7_ok nmX7 0 rfl rfl 26 (Nat.le_of_ble_eq_true rfl) tw_671 rfl rfl rfl rfl (Nat.le_of_ble_eq_true rfl) rfl ?_
      obtain rfl := Option.some.inj h
      exact V_vret eX7_settle_74 rfl ⟨rfl, rfl⟩
theorem hdX7_rival : yX7_rival.cls ≠ "java/lang/invoke/MethodHandle" ∧ yX7_rival.cls ≠ "java/lang/invoke/VarHandle" ∧ (parseMethodDescriptor yX7_rival.desc).map (fun d => d.parameters.length) = some 1 := by decide +kernel
theorem eX7_rival_0 : Dc cX7_rival 0 (.iload_n 1) 1 1 := ⟨by decide +kernel, rfl⟩
theorem eX7_rival_1 : Dc cX7_rival 1 (.i2l) 1 2 := ⟨by decide +kernel, rfl⟩
theorem eX7_rival_2 : Dc cX7_rival 2 (.lconst 0) 1 3 := ⟨by decide +kernel, rfl⟩
theorem eX7_rival_3 : Dc cX7_rival 3 (.ldc2_w 214) 3 6 := ⟨by decide +kernel, rfl⟩
theorem eX7_rival_6 : Dc cX7_rival 6 (.invokestatic 79) 3 9 := ⟨by decide +kernel, rfl⟩
theorem eX7_rival_9 : Dc cX7_rival 9 (.ifCond .ne 6) 3 12 := ⟨by decide +kernel, rfl⟩
theorem eX7_rival_12 : Dc cX7_rival 12 (.bipush (-2)) 2 14 := ⟨by decide +kernel, rfl⟩
theorem eX7_rival_14 : Dc cX7_rival 14 (.ireturn) 1 15 := ⟨by decide +kernel, rfl⟩
theorem eX7_rival_15 : Dc cX7_rival 15 (.aload_n 0) 1 16 := ⟨by decide +kernel, rfl⟩
theorem eX7_rival_16 : Dc cX7_rival 16 (.getfield 73) 3 19 := ⟨by decide +kernel, rfl⟩
theorem eX7_rival_19 : Dc cX7_rival 19 (.iconst 5) 1 20 := ⟨by decide +kernel, rfl⟩
theorem eX7_rival_20 : Dc cX7_rival 20 (.if_icmp .le 6) 3 23 := ⟨by decide +kernel, rfl⟩
theorem eX7_rival_23 : Dc cX7_rival 23 (.bipush (-4)) 2 25 := ⟨by decide +kernel, rfl⟩
theorem eX7_rival_25 : Dc cX7_rival 25 (.ireturn) 1 26 := ⟨by decide +kernel, rfl⟩
theorem eX7_rival_26 : Dc cX7_rival 26 (.aload_n 0) 1 27 := ⟨by decide +kernel, rfl⟩
theorem eX7_rival_27 : Dc cX7_rival 27 (.getfield 73) 3 30 := ⟨by decide +kernel, rfl⟩
theorem eX7_rival_30 : Dc cX7_rival 30 (.istore_n 2) 1 31 := ⟨by decide +kernel, rfl⟩
theorem eX7_rival_31 : Dc cX7_rival 31 (.iload_n 2) 1 32 := ⟨by decide +kernel, rfl⟩
theorem eX7_rival_32 : Dc cX7_rival 32 (.ifCond .lt 50) 3 35 := ⟨by decide +kernel, rfl⟩
theorem eX7_rival_35 : Dc cX7_rival 35 (.aload_n 0) 1 36 := ⟨by decide +kernel, rfl⟩
theorem eX7_rival_36 : Dc cX7_rival 36 (.getfield 69) 3 39 := ⟨by decide +kernel, rfl⟩
theorem eX7_rival_39 : Dc cX7_rival 39 (.invokestatic 204) 3 42 := ⟨by decide +kernel, rfl⟩
theorem eX7_rival_42 : Dc cX7_rival 42 (.iconst 1) 1 43 := ⟨by decide +kernel, rfl⟩
theorem eX7_rival_43 : Dc cX7_rival 43 (.isub) 1 44 := ⟨by decide +kernel, rfl⟩
theorem eX7_rival_44 : Dc cX7_rival 44 (.istore_n 3) 1 45 := ⟨by decide +kernel, rfl⟩
theorem eX7_rival_45 : Dc cX7_rival 45 (.iload_n 3) 1 46 := ⟨by decide +kernel, rfl⟩
theorem eX7_rival_46 : Dc cX7_rival 46 (.ifCond .lt 30) 3 49 := ⟨by decide +kernel, rfl⟩
theorem eX7_rival_49 : Dc cX7_rival 49 (.aload_n 0) 1 50 := ⟨by decide +kernel, rfl⟩
theorem eX7_rival_50 : Dc cX7_rival 50 (.iload_n 3) 1 51 := ⟨by decide +kernel, rfl⟩
theorem eX7_rival_51 : Dc cX7_rival 51 (.invokevirtual 216) 3 54 := ⟨by decide +kernel, rfl⟩
theorem eX7_rival_54 : Dc cX7_rival 54 (.ifCond .eq 16) 3 57 := ⟨by decide +kernel, rfl⟩
theorem eX7_rival_57 : Dc cX7_rival 57 (.aload_n 0) 1 58 := ⟨by decide +kernel, rfl⟩
theorem eX7_rival_58 : Dc cX7_rival 58 (.invokevirtual 167) 3 61 := ⟨by decide +kernel, rfl⟩
theorem eX7_rival_61 : Dc cX7_rival 61 (.iload_n 2) 1 62 := ⟨by decide +kernel, rfl⟩
theorem eX7_rival_62 : Dc cX7_rival 62 (.if_icmp .ne 8) 3 65 := ⟨by decide +kernel, rfl⟩
theorem eX7_rival_65 : Dc cX7_rival 65 (.aload_n 0) 1 66 := ⟨by decide +kernel, rfl⟩
theorem eX7_rival_66 : Dc cX7_rival 66 (.iload_n 3) 1 67 := ⟨by decide +kernel, rfl⟩
theorem eX7_rival_67 : Dc cX7_rival 67 (.invokevirtual 219) 3 70 := ⟨by decide +kernel, rfl⟩
theorem eX7_rival_70 : Dc cX7_rival 70 (.iinc 3 (-1)) 3 73 := ⟨by decide +kernel, rfl⟩
theorem eX7_rival_73 : Dc cX7_rival 73 (.goto (-28)) 3 76 := ⟨by decide +kernel, rfl⟩
theorem eX7_rival_76 : Dc cX7_rival 76 (.iinc 2 (-1)) 3 79 := ⟨by decide +kernel, rfl⟩
theorem eX7_rival_79 : Dc cX7_rival 79 (.goto (-48)) 3 82 := ⟨by decide +kernel, rfl⟩
theorem eX7_rival_82 : Dc cX7_rival 82 (.iload_n 1) 1 83 := ⟨by decide +kernel, rfl⟩
theorem eX7_rival_83 : Dc cX7_rival 83 (.ifCond .ne 16) 3 86 := ⟨by decide +kernel, rfl⟩
theorem eX7_rival_86 : Dc cX7_rival 86 (.sipush 1000) 3 89 := ⟨by decide +kernel, rfl⟩
theorem eX7_rival_89 : Dc cX7_rival 89 (.aload_n 0) 1 90 := ⟨by decide +kernel, rfl⟩
theorem eX7_rival_90 : Dc cX7_rival 90 (.getfield 56) 3 93 := ⟨by decide +kernel, rfl⟩
theorem eX7_rival_93 : Dc cX7_rival 93 (.iconst 0) 1 94 := ⟨by decide +kernel, rfl⟩
theorem eX7_rival_94 : Dc cX7_rival 94 (.iaload) 1 95 := ⟨by decide +kernel, rfl⟩
theorem eX7_rival_95 : Dc cX7_rival 95 (.iadd) 1 96 := ⟨by decide +kernel, rfl⟩
theorem eX7_rival_96 : Dc cX7_rival 96 (.goto 25) 3 99 := ⟨by decide +kernel, rfl⟩
theorem eX7_rival_99 : Dc cX7_rival 99 (.iload_n 1) 1 100 := ⟨by decide +kernel, rfl⟩
theorem eX7_rival_100 : Dc cX7_rival 100 (.iconst 1) 1 101 := ⟨by decide +kernel, rfl⟩
theorem eX7_rival_101 : Dc cX7_rival 101 (.if_icmp .ne 16) 3 104 := ⟨by decide +kernel, rfl⟩
theorem eX7_rival_104 : Dc cX7_rival 104 (.sipush 1000) 3 107 := ⟨by decide +kernel, rfl⟩
theorem eX7_rival_107 : Dc cX7_rival 107 (.aload_n 0) 1 108 := ⟨by decide +kernel, rfl⟩
theorem eX7_rival_108 : Dc cX7_rival 108 (.getfield 59) 3 111 := ⟨by decide +kernel, rfl⟩
theorem eX7_rival_111 : Dc cX7_rival 111 (.iconst 0) 1 112 := ⟨by decide +kernel, rfl⟩
theorem eX7_rival_112 : Dc cX7_rival 112 (.iaload) 1 113 := ⟨by decide +kernel, rfl⟩
theorem eX7_rival_113 : Dc cX7_rival 113 (.iadd) 1 114 := ⟨by decide +kernel, rfl⟩
theorem eX7_rival_114 : Dc cX7_rival 114 (.goto 7) 3 117 := ⟨by decide +kernel, rfl⟩
theorem eX7_rival_117 : Dc cX7_rival 117 (.aload_n 0) 1 118 := ⟨by decide +kernel, rfl⟩
theorem eX7_rival_118 : Dc cX7_rival 118 (.getfield 201) 3 121 := ⟨by decide +kernel, rfl⟩
theorem eX7_rival_121 : Dc cX7_rival 121 (.ireturn) 1 122 := ⟨by decide +kernel, rfl⟩
def fX7_rival_L45 (k : SS → Option (Int32 × SS)) (a1 : Int32) (a2 : Int32) : Nat → Int32 → SS → Option (Int32 × SS)
  | 0, _, _ => none
  | n + 1, a3, c => if a3 < (0 : Int32) then k c else Option.bind (fX7_layNumber c a3) (fun q6 => jn (fun (c7 : SS) => fX7_rival_L45 k a1 a2 n (a3 + (-1 : Int32)) c7) (fun j70 => if q6.1 = (0 : Int32) then j70 q6.2 else Option.bind (fX7_heldIn q6.2) (fun q9 => if q9 = a2 then Option.bind (fX7_settle q6.2 a3) (fun q11 => j70 q11) else j70 q6.2)))
def fX7_rival_L31 (k : SS → Option (Int32 × SS)) (a1 : Int32) : Nat → Int32 → SS → Option (Int32 × SS)
  | 0, _, _ => none
  | n + 1, a2, c => if a2 < (0 : Int32) then k c else Option.bind (fX7_power (c.1 0)) (fun q4 => fX7_rival_L45 (fun (c12 : SS) => fX7_rival_L31 k a1 n (a2 + (-1 : Int32)) c12) a1 a2 fu (q4 - (1 : Int32)) c)
def fX7_rival (c : SS) (p1 : Int32) : Option (Int32 × SS) := if (fX7_in (p1).toInt64 (0 : Int64) (2 : Int64)) = (0 : Int32) then some ((-2 : Int32), c) else if (c.1 10) ≤ (5 : Int32) then fX7_rival_L31 (fun (c13 : SS) => if p1 = (0 : Int32) then ald 186624 (c13.2 24) (0 : Int32) (fun v17 => some (((1000 : Int32) + v17), c13)) else if p1 = (1 : Int32) then ald 186624 (c13.2 25) (0 : Int32) (fun v16 => some (((1000 : Int32) + v16), c13)) else some ((c13.1 26), c13)) p1 fu (c.1 10) c else some ((-4 : Int32), c)
set_option maxRecDepth 20000 in
theorem ctX7_rival_L45 (l : Launch) (G : tg_G) (A : Nat → Nat) (k : SS → Option (Int32 × SS)) (a1 : Int32) (a2 : Int32) {z : Int32 × SS} (hk : ∀ (ec : SS), k ec = some z → V l G (tg_Zm G (fun v w1 => v = some (.int z.1) ∧ w1 = wM G A z.2) 0 0) tg_E0 (tg_R 4 99) "TramGodModel" "rival" cX7_rival 4 (some .int) 76 [(0, .ref (A 0)), (1, .int a1), (2, .int a2)] [] (wM G A ec) 0 0) : ∀ (n : Nat) (a3 : Int32) (c : SS), fX7_rival_L45 k a1 a2 n a3 c = some z → V l G (tg_Zm G (fun v w1 => v = some (.int z.1) ∧ w1 = wM G A z.2) 0 0) tg_E0 (tg_R 4 99) "TramGodModel" "rival" cX7_rival 4 (some .int) 45 [(0, .ref (A 0)), (1, .int a1), (2, .int a2), (3, .int a3)] [] (wM G A c) 0 0 := by
  intro n
  induction n with
  | zero => intro a3 c h; exact absurd h (by simp [fX7_rival_L45])
  | succ n ih =>
    intro a3 c h
    unfold fX7_rival_L45 at h
    refine V_iload_n eX7_rival_45 3 rfl ?_
    refine V_if_lt (tgt := 76) eX7_rival_46 rfl (fun hb5 => ?_) (fun hb5 => ?_)
    · replace h := (if_pos hb5).symm.trans h
      refine V_lv (lv' := [(0, .ref (A 0)), (1, .int a1), (2, .int a2)]) [0, 1, 2] rfl ?_
      exact hk c h
    · replace h := (if_neg hb5).symm.trans h
      refine V_aload_n eX7_rival_49 0 rfl ?_
      refine V_iload_n eX7_rival_50 3 rfl ?_
      obtain ⟨q6, hc6, h⟩ := Option.bind_eq_some_iff.mp h
      refine V_callVi (rest := []) eX7_rival_51 (ctX7_layNumber l G A c a3 hc6) tc_926 tw_923 tw_8 tw_925 ts_39 0 rfl rfl hdX7_layNumber rfl ⟨Nat.le_of_ble_eq_true rfl, Nat.le_of_ble_eq_true rfl⟩ rfl (Nat.le_of_ble_eq_true rfl) ⟨Nat.zero_le _, Nat.zero_le _⟩ ?_
      refine jn_elim h (fun j => ∀ (c7 : SS), j c7 = some z → V l G (tg_Zm G (fun v w1 => v = some (.int z.1) ∧ w1 = wM G A z.2) 0 0) tg_E0 (tg_R 4 99) "TramGodModel" "rival" cX7_rival 4 (some .int) 70 [(0, .ref (A 0)), (1, .int a1), (2, .int a2), (3, .int a3)] [] (wM G A c7) 0 0) ?_ (fun j70 hj70 h => ?_)
      · intro c7 h
        refine V_iinc (v := (a3 + (-1 : Int32))) (lv' := [(3, .int (a3 + (-1 : Int32))), (0, .ref (A 0)), (1, .int a1), (2, .int a2)]) eX7_rival_70 3 rfl rfl (Nat.le_of_ble_eq_true rfl) rfl ?_
        refine V_goto (tgt := 45) eX7_rival_73 rfl ?_
        refine V_lv (lv' := [(0, .ref (A 0)), (1, .int a1), (2, .int a2), (3, .int (a3 + (-1 : Int32)))]) [1, 2, 3, 0] rfl ?_
        exact ih (a3 + (-1 : Int32)) c7 h
      refine V_if_eq (tgt := 70) eX7_rival_54 rfl (fun hb8 => ?_) (fun hb8 => ?_)
      · replace h := (if_pos hb8).symm.trans h
        exact hj70 q6.2 h
      · replace h := (if_neg hb8).symm.trans h
        refine V_aload_n eX7_rival_57 0 rfl ?_
        obtain ⟨q9, hc9, h⟩ := Option.bind_eq_some_iff.mp h
        refine V_callVi (rest := []) eX7_rival_58 (ctX7_heldIn l G A q6.2 hc9) tc_883 tw_880 tw_8 tw_882 ts_35 0 rfl rfl hdX7_heldIn rfl ⟨Nat.le_of_ble_eq_true rfl, Nat.le_of_ble_eq_true rfl⟩ rfl (Nat.le_of_ble_eq_true rfl) ⟨Nat.zero_le _, Nat.zero_le _⟩ ?_
        refine V_iload_n eX7_rival_61 2 rfl ?_
        refine V_icmp_ne (tgt := 70) eX7_rival_62 rfl (fun hb10 => ?_) (fun hb10 => ?_)
        · replace h := (if_neg hb10).symm.trans h
          exact hj70 q6.2 h
        · replace h := (if_pos hb10).symm.trans h
          refine V_aload_n eX7_rival_65 0 rfl ?_
          refine V_iload_n eX7_rival_66 3 rfl ?_
          obtain ⟨q11, hc11, h⟩ := Option.bind_eq_some_iff.mp h
          refine V_callVv (rest := []) eX7_rival_67 (ctX7_settle l G A q6.2 a3 hc11) tc_930 tw_927 tw_8 tw_929 ts_40 0 rfl rfl hdX7_settle rfl ⟨Nat.le_of_ble_eq_true rfl, Nat.le_of_ble_eq_true rfl⟩ rfl (Nat.le_of_ble_eq_true rfl) ⟨Nat.zero_le _, Nat.zero_le _⟩ ?_
          exact hj70 q11 h
set_option maxRecDepth 20000 in
theorem ctX7_rival_L31 (l : Launch) (G : tg_G) (A : Nat → Nat) (k : SS → Option (Int32 × SS)) (a1 : Int32) {z : Int32 × SS} (hk : ∀ (ec : SS), k ec = some z → V l G (tg_Zm G (fun v w1 => v = some (.int z.1) ∧ w1 = wM G A z.2) 0 0) tg_E0 (tg_R 4 99) "TramGodModel" "rival" cX7_rival 4 (some .int) 82 [(0, .ref (A 0)), (1, .int a1)] [] (wM G A ec) 0 0) : ∀ (n : Nat) (a2 : Int32) (c : SS), fX7_rival_L31 k a1 n a2 c = some z → V l G (tg_Zm G (fun v w1 => v = some (.int z.1) ∧ w1 = wM G A z.2) 0 0) tg_E0 (tg_R 4 99) "TramGodModel" "rival" cX7_rival 4 (some .int) 31 [(0, .ref (A 0)), (1, .int a1), (2, .int a2)] [] (wM G A c) 0 0 := by
  intro n
  induction n with
  | zero => intro a2 c h; exact absurd h (by simp [fX7_rival_L31])
  | succ n ih =>
    intro a2 c h
    unfold fX7_rival_L31 at h
    refine V_iload_n eX7_rival_31 2 rfl ?_
    refine V_if_lt (tgt := 82) eX7_rival_32 rfl (fun hb3 => ?_) (fun hb3 => ?_)
    · replace h := (if_pos hb3).symm.trans h
      refine V_lv (lv' := [(0, .ref (A 0)), (1, .int a1)]) [0, 1] rfl ?_
      exact hk c h
    · replace h := (if_neg hb3).symm.trans h
      refine V_aload_n eX7_rival_35 0 rfl ?_
      refine V_get (v := .int (c.1 0)) eX7_rival_36 inX7 0 rfl rfl 0 (Nat.le_of_ble_eq_true rfl) tw_645 rfl ?_
      obtain ⟨q4, hc4, h⟩ := Option.bind_eq_some_iff.mp h
      refine V_callSi (rest := []) eX7_rival_39 (ctX7_power l G _ (c.1 0) hc4) tc_922 tw_920 tw_8 tw_921 hdX7_power rfl ⟨Nat.le_of_ble_eq_true rfl, Nat.le_of_ble_eq_true rfl⟩ rfl (Nat.le_of_ble_eq_true rfl) ⟨Nat.zero_le _, Nat.zero_le _⟩ ?_
      refine V_iconst (v := (1 : Int32)) eX7_rival_42 rfl ?_
      refine V_isub eX7_rival_43 ?_
      refine V_istore_n (lv' := [(3, .int (q4 - (1 : Int32))), (0, .ref (A 0)), (1, .int a1), (2, .int a2)]) eX7_rival_44 (Nat.le_of_ble_eq_true rfl) rfl ?_
      refine V_lv (lv' := [(0, .ref (A 0)), (1, .int a1), (2, .int a2), (3, .int (q4 - (1 : Int32)))]) [1, 2, 3, 0] rfl ?_
      refine ctX7_rival_L45 l G A _ a1 a2 ?_ fu (q4 - (1 : Int32)) c h
      · intro c12 h
        refine V_iinc (v := (a2 + (-1 : Int32))) (lv' := [(2, .int (a2 + (-1 : Int32))), (0, .ref (A 0)), (1, .int a1)]) eX7_rival_76 2 rfl rfl (Nat.le_of_ble_eq_true rfl) rfl ?_
        refine V_goto (tgt := 31) eX7_rival_79 rfl ?_
        refine V_lv (lv' := [(0, .ref (A 0)), (1, .int a1), (2, .int (a2 + (-1 : Int32)))]) [1, 2, 0] rfl ?_
        exact ih (a2 + (-1 : Int32)) c12 h
set_option maxRecDepth 20000 in
theorem ctX7_rival (l : Launch) (G : tg_G) (A : Nat → Nat) (c : SS) (p1 : Int32) {z : Int32 × SS} (h : fX7_rival c p1 = some z) : Mt l G yX7_rival cX7_rival 4 (some .int) (tg_R 4 99) [.ref (A 0), .int p1] (wM G A c) (fun v w1 => v = some (.int z.1) ∧ w1 = wM G A z.2) := by
  refine Mt_of2 (own := "TramGodModel") (nm := "rival") rfl rfl rfl (Nat.le_of_ble_eq_true rfl) (lv := [(0, .ref (A 0)), (1, .int p1)]) rfl ?_
  unfold fX7_rival at h
  refine V_iload_n eX7_rival_0 1 rfl ?_
  refine V_i2l eX7_rival_1 ?_
  refine V_lconst (v := (0 : Int64)) eX7_rival_2 rfl ?_
  refine V_ldc2 eX7_rival_3 tw_919 ?_
  refine V_callSi (rest := []) eX7_rival_6 (ctX7_in l G _ (p1).toInt64 (0 : Int64) (2 : Int64) rfl) tc_748 tw_746 tw_8 tw_747 hdX7_in rfl ⟨Nat.le_of_ble_eq_true rfl, Nat.le_of_ble_eq_true rfl⟩ rfl (Nat.le_of_ble_eq_true rfl) ⟨Nat.zero_le _, Nat.zero_le _⟩ ?_
  refine V_if_ne (tgt := 15) eX7_rival_9 rfl (fun hb1 => ?_) (fun hb1 => ?_)
  · replace h := (if_neg hb1).symm.trans h
    refine V_aload_n eX7_rival_15 0 rfl ?_
    refine V_get (v := .int (c.1 10)) eX7_rival_16 inX7 0 rfl rfl 10 (Nat.le_of_ble_eq_true rfl) tw_655 rfl ?_
    refine V_iconst (v := (5 : Int32)) eX7_rival_19 rfl ?_
    refine V_icmp_le (tgt := 26) eX7_rival_20 rfl (fun hb2 => ?_) (fun hb2 => ?_)
    · replace h := (if_pos hb2).symm.trans h
      refine V_aload_n eX7_rival_26 0 rfl ?_
      refine V_get (v := .int (c.1 10)) eX7_rival_27 inX7 0 rfl rfl 10 (Nat.le_of_ble_eq_true rfl) tw_655 rfl ?_
      refine V_istore_n (lv' := [(2, .int (c.1 10)), (0, .ref (A 0)), (1, .int p1)]) eX7_rival_30 (Nat.le_of_ble_eq_true rfl) rfl ?_
      refine V_lv (lv' := [(0, .ref (A 0)), (1, .int p1), (2, .int (c.1 10))]) [1, 2, 0] rfl ?_
      refine ctX7_rival_L31 l G A _ p1 ?_ fu (c.1 10) c h
      · intro c13 h
        refine V_iload_n eX7_rival_82 1 rfl ?_
        refine V_if_ne (tgt := 99) eX7_rival_83 rfl (fun hb14 => ?_) (fun hb14 => ?_)
        · replace h := (if_neg hb14).symm.trans h
          refine V_iload_n eX7_rival_99 1 rfl ?_
          refine V_iconst (v := (1 : Int32)) eX7_rival_100 rfl ?_
          refine V_icmp_ne (tgt := 117) eX7_rival_101 rfl (fun hb15 => ?_) (fun hb15 => ?_)
          · replace h := (if_neg hb15).symm.trans h
            refine V_aload_n eX7_rival_117 0 rfl ?_
            refine V_get (v := .int (c13.1 26)) eX7_rival_118 inX7 0 rfl rfl 26 (Nat.le_of_ble_eq_true rfl) tw_671 rfl ?_
            obtain rfl := Option.some.inj h
            exact V_ret eX7_rival_121 rfl ⟨rfl, rfl⟩
          · replace h := (if_pos hb15).symm.trans h
            refine V_sipush (v := (1000 : Int32)) eX7_rival_104 rfl ?_
            refine V_aload_n eX7_rival_107 0 rfl ?_
            refine V_get (v := .ref (A 17)) eX7_rival_108 inX7 0 rfl rfl 25 (Nat.le_of_ble_eq_true rfl) tw_670 rfl ?_
            refine V_iconst (v := (0 : Int32)) eX7_rival_111 rfl ?_
            obtain ⟨v16, hi16, ev16, h⟩ := ald_some h
            refine V_ialdv eX7_rival_112 17 rfl hi16 ev16 ?_
            refine V_iadd eX7_rival_113 ?_
            refine V_goto (tgt := 121) eX7_rival_114 rfl ?_
            obtain rfl := Option.some.inj h
            exact V_ret eX7_rival_121 rfl ⟨rfl, rfl⟩
        · replace h := (if_pos hb14).symm.trans h
          refine V_sipush (v := (1000 : Int32)) eX7_rival_86 rfl ?_
          refine V_aload_n eX7_rival_89 0 rfl ?_
          refine V_get (v := .ref (A 16)) eX7_rival_90 inX7 0 rfl rfl 24 (Nat.le_of_ble_eq_true rfl) tw_669 rfl ?_
          refine V_iconst (v := (0 : Int32)) eX7_rival_93 rfl ?_
          obtain ⟨v17, hi17, ev17, h⟩ := ald_some h
          refine V_ialdv eX7_rival_94 16 rfl hi17 ev17 ?_
          refine V_iadd eX7_rival_95 ?_
          refine V_goto (tgt := 121) eX7_rival_96 rfl ?_
          obtain rfl := Option.some.inj h
          exact V_ret eX7_rival_121 rfl ⟨rfl, rfl⟩
    · replace h := (if_neg hb2).symm.trans h
      refine V_bipush (v := (-4 : Int32)) eX7_rival_23 rfl ?_
      obtain rfl := Option.some.inj h
      exact V_ret eX7_rival_25 rfl ⟨rfl, rfl⟩
  · replace h := (if_pos hb1).symm.trans h
    refine V_bipush (v := (-2 : Int32)) eX7_rival_12 rfl ?_
    obtain rfl := Option.some.inj h
    exact V_ret eX7_rival_14 rfl ⟨rfl, rfl⟩
theorem hdX7_closing : yX7_closing.cls ≠ "java/lang/invoke/MethodHandle" ∧ yX7_closing.cls ≠ "java/lang/invoke/VarHandle" ∧ (parseMethodDescriptor yX7_closing.desc).map (fun d => d.parameters.length) = some 2 := by decide +kernel
theorem eX7_closing_0 : Dc cX7_closing 0 (.iload_n 1) 1 1 := ⟨by decide +kernel, rfl⟩
theorem eX7_closing_1 : Dc cX7_closing 1 (.i2l) 1 2 := ⟨by decide +kernel, rfl⟩
theorem eX7_closing_2 : Dc cX7_closing 2 (.lconst 0) 1 3 := ⟨by decide +kernel, rfl⟩
theorem eX7_closing_3 : Dc cX7_closing 3 (.ldc2_w 223) 3 6 := ⟨by decide +kernel, rfl⟩
theorem eX7_closing_6 : Dc cX7_closing 6 (.invokestatic 79) 3 9 := ⟨by decide +kernel, rfl⟩
theorem eX7_closing_9 : Dc cX7_closing 9 (.ifCond .eq 13) 3 12 := ⟨by decide +kernel, rfl⟩
theorem eX7_closing_12 : Dc cX7_closing 12 (.iload_n 2) 1 13 := ⟨by decide +kernel, rfl⟩
theorem eX7_closing_13 : Dc cX7_closing 13 (.i2l) 1 14 := ⟨by decide +kernel, rfl⟩
theorem eX7_closing_14 : Dc cX7_closing 14 (.lconst 0) 1 15 := ⟨by decide +kernel, rfl⟩
theorem eX7_closing_15 : Dc cX7_closing 15 (.lconst 1) 1 16 := ⟨by decide +kernel, rfl⟩
theorem eX7_closing_16 : Dc cX7_closing 16 (.invokestatic 79) 3 19 := ⟨by decide +kernel, rfl⟩
theorem eX7_closing_19 : Dc cX7_closing 19 (.ifCond .ne 6) 3 22 := ⟨by decide +kernel, rfl⟩
theorem eX7_closing_22 : Dc cX7_closing 22 (.bipush (-2)) 2 24 := ⟨by decide +kernel, rfl⟩
theorem eX7_closing_24 : Dc cX7_closing 24 (.ireturn) 1 25 := ⟨by decide +kernel, rfl⟩
theorem eX7_closing_25 : Dc cX7_closing 25 (.aload_n 0) 1 26 := ⟨by decide +kernel, rfl⟩
theorem eX7_closing_26 : Dc cX7_closing 26 (.getfield 83) 3 29 := ⟨by decide +kernel, rfl⟩
theorem eX7_closing_29 : Dc cX7_closing 29 (.istore_n 3) 1 30 := ⟨by decide +kernel, rfl⟩
theorem eX7_closing_30 : Dc cX7_closing 30 (.aload_n 0) 1 31 := ⟨by decide +kernel, rfl⟩
theorem eX7_closing_31 : Dc cX7_closing 31 (.invokevirtual 170) 3 34 := ⟨by decide +kernel, rfl⟩
theorem eX7_closing_34 : Dc cX7_closing 34 (.bipush (-6)) 2 36 := ⟨by decide +kernel, rfl⟩
theorem eX7_closing_36 : Dc cX7_closing 36 (.istore 4) 2 38 := ⟨by decide +kernel, rfl⟩
theorem eX7_closing_38 : Dc cX7_closing 38 (.iconst 0) 1 39 := ⟨by decide +kernel, rfl⟩
theorem eX7_closing_39 : Dc cX7_closing 39 (.istore 5) 2 41 := ⟨by decide +kernel, rfl⟩
theorem eX7_closing_41 : Dc cX7_closing 41 (.iconst 0) 1 42 := ⟨by decide +kernel, rfl⟩
theorem eX7_closing_42 : Dc cX7_closing 42 (.istore 6) 2 44 := ⟨by decide +kernel, rfl⟩
theorem eX7_closing_44 : Dc cX7_closing 44 (.iload 6) 2 46 := ⟨by decide +kernel, rfl⟩
theorem eX7_closing_46 : Dc cX7_closing 46 (.iconst 1) 1 47 := ⟨by decide +kernel, rfl⟩
theorem eX7_closing_47 : Dc cX7_closing 47 (.aload_n 0) 1 48 := ⟨by decide +kernel, rfl⟩
theorem eX7_closing_48 : Dc cX7_closing 48 (.getfield 69) 3 51 := ⟨by decide +kernel, rfl⟩
theorem eX7_closing_51 : Dc cX7_closing 51 (.ishl) 1 52 := ⟨by decide +kernel, rfl⟩
theorem eX7_closing_52 : Dc cX7_closing 52 (.if_icmp .ge 93) 3 55 := ⟨by decide +kernel, rfl⟩
theorem eX7_closing_55 : Dc cX7_closing 55 (.iload 6) 2 57 := ⟨by decide +kernel, rfl⟩
theorem eX7_closing_57 : Dc cX7_closing 57 (.iload_n 3) 1 58 := ⟨by decide +kernel, rfl⟩
theorem eX7_closing_58 : Dc cX7_closing 58 (.iand) 1 59 := ⟨by decide +kernel, rfl⟩
theorem eX7_closing_59 : Dc cX7_closing 59 (.ifCond .ne 80) 3 62 := ⟨by decide +kernel, rfl⟩
theorem eX7_closing_62 : Dc cX7_closing 62 (.iload 6) 2 64 := ⟨by decide +kernel, rfl⟩
theorem eX7_closing_64 : Dc cX7_closing 64 (.invokestatic 122) 3 67 := ⟨by decide +kernel, rfl⟩
theorem eX7_closing_67 : Dc cX7_closing 67 (.iload_n 1) 1 68 := ⟨by decide +kernel, rfl⟩
theorem eX7_closing_68 : Dc cX7_closing 68 (.if_icmp .ne 71) 3 71 := ⟨by decide +kernel, rfl⟩
theorem eX7_closing_71 : Dc cX7_closing 71 (.aload_n 0) 1 72 := ⟨by decide +kernel, rfl⟩
theorem eX7_closing_72 : Dc cX7_closing 72 (.iload_n 3) 1 73 := ⟨by decide +kernel, rfl⟩
theorem eX7_closing_73 : Dc cX7_closing 73 (.iload 6) 2 75 := ⟨by decide +kernel, rfl⟩
theorem eX7_closing_75 : Dc cX7_closing 75 (.ior) 1 76 := ⟨by decide +kernel, rfl⟩
theorem eX7_closing_76 : Dc cX7_closing 76 (.putfield 83) 3 79 := ⟨by decide +kernel, rfl⟩
theorem eX7_closing_79 : Dc cX7_closing 79 (.aload_n 0) 1 80 := ⟨by decide +kernel, rfl⟩
theorem eX7_closing_80 : Dc cX7_closing 80 (.aload_n 0) 1 81 := ⟨by decide +kernel, rfl⟩
theorem eX7_closing_81 : Dc cX7_closing 81 (.invokevirtual 157) 3 84 := ⟨by decide +kernel, rfl⟩
theorem eX7_closing_84 : Dc cX7_closing 84 (.sipush 255) 3 87 := ⟨by decide +kernel, rfl⟩
theorem eX7_closing_87 : Dc cX7_closing 87 (.invokevirtual 161) 3 90 := ⟨by decide +kernel, rfl⟩
theorem eX7_closing_90 : Dc cX7_closing 90 (.istore 7) 2 92 := ⟨by decide +kernel, rfl⟩
theorem eX7_closing_92 : Dc cX7_closing 92 (.iload 4) 2 94 := ⟨by decide +kernel, rfl⟩
theorem eX7_closing_94 : Dc cX7_closing 94 (.ifCond .lt 10) 3 97 := ⟨by decide +kernel, rfl⟩
theorem eX7_closing_97 : Dc cX7_closing 97 (.iload 7) 2 99 := ⟨by decide +kernel, rfl⟩
theorem eX7_closing_99 : Dc cX7_closing 99 (.iload 5) 2 101 := ⟨by decide +kernel, rfl⟩
theorem eX7_closing_101 : Dc cX7_closing 101 (.if_icmp .le 7) 3 104 := ⟨by decide +kernel, rfl⟩
theorem eX7_closing_104 : Dc cX7_closing 104 (.iconst 1) 1 105 := ⟨by decide +kernel, rfl⟩
theorem eX7_closing_105 : Dc cX7_closing 105 (.goto 4) 3 108 := ⟨by decide +kernel, rfl⟩
theorem eX7_closing_108 : Dc cX7_closing 108 (.iconst 0) 1 109 := ⟨by decide +kernel, rfl⟩
theorem eX7_closing_109 : Dc cX7_closing 109 (.istore 8) 2 111 := ⟨by decide +kernel, rfl⟩
theorem eX7_closing_111 : Dc cX7_closing 111 (.iload 8) 2 113 := ⟨by decide +kernel, rfl⟩
theorem eX7_closing_113 : Dc cX7_closing 113 (.ifCond .eq 8) 3 116 := ⟨by decide +kernel, rfl⟩
theorem eX7_closing_116 : Dc cX7_closing 116 (.iload 7) 2 118 := ⟨by decide +kernel, rfl⟩
theorem eX7_closing_118 : Dc cX7_closing 118 (.goto 5) 3 121 := ⟨by decide +kernel, rfl⟩
theorem eX7_closing_121 : Dc cX7_closing 121 (.iload 5) 2 123 := ⟨by decide +kernel, rfl⟩
theorem eX7_closing_123 : Dc cX7_closing 123 (.istore 5) 2 125 := ⟨by decide +kernel, rfl⟩
theorem eX7_closing_125 : Dc cX7_closing 125 (.iload 8) 2 127 := ⟨by decide +kernel, rfl⟩
theorem eX7_closing_127 : Dc cX7_closing 127 (.ifCond .eq 8) 3 130 := ⟨by decide +kernel, rfl⟩
theorem eX7_closing_130 : Dc cX7_closing 130 (.iload 6) 2 132 := ⟨by decide +kernel, rfl⟩
theorem eX7_closing_132 : Dc cX7_closing 132 (.goto 5) 3 135 := ⟨by decide +kernel, rfl⟩
theorem eX7_closing_135 : Dc cX7_closing 135 (.iload 4) 2 137 := ⟨by decide +kernel, rfl⟩
theorem eX7_closing_137 : Dc cX7_closing 137 (.istore 4) 2 139 := ⟨by decide +kernel, rfl⟩
theorem eX7_closing_139 : Dc cX7_closing 139 (.iinc 6 1) 3 142 := ⟨by decide +kernel, rfl⟩
theorem eX7_closing_142 : Dc cX7_closing 142 (.goto (-98)) 3 145 := ⟨by decide +kernel, rfl⟩
theorem eX7_closing_145 : Dc cX7_closing 145 (.aload_n 0) 1 146 := ⟨by decide +kernel, rfl⟩
theorem eX7_closing_146 : Dc cX7_closing 146 (.iload_n 3) 1 147 := ⟨by decide +kernel, rfl⟩
theorem eX7_closing_147 : Dc cX7_closing 147 (.putfield 83) 3 150 := ⟨by decide +kernel, rfl⟩
theorem eX7_closing_150 : Dc cX7_closing 150 (.iload 4) 2 152 := ⟨by decide +kernel, rfl⟩
theorem eX7_closing_152 : Dc cX7_closing 152 (.ifCond .lt 8) 3 155 := ⟨by decide +kernel, rfl⟩
theorem eX7_closing_155 : Dc cX7_closing 155 (.iload_n 2) 1 156 := ⟨by decide +kernel, rfl⟩
theorem eX7_closing_156 : Dc cX7_closing 156 (.iconst 1) 1 157 := ⟨by decide +kernel, rfl⟩
theorem eX7_closing_157 : Dc cX7_closing 157 (.if_icmp .ne 8) 3 160 := ⟨by decide +kernel, rfl⟩
theorem eX7_closing_160 : Dc cX7_closing 160 (.iload 4) 2 162 := ⟨by decide +kernel, rfl⟩
theorem eX7_closing_162 : Dc cX7_closing 162 (.goto 9) 3 165 := ⟨by decide +kernel, rfl⟩
theorem eX7_closing_165 : Dc cX7_closing 165 (.iload 5) 2 167 := ⟨by decide +kernel, rfl⟩
theorem eX7_closing_167 : Dc cX7_closing 167 (.sipush 1000) 3 170 := ⟨by decide +kernel, rfl⟩
theorem eX7_closing_170 : Dc cX7_closing 170 (.iadd) 1 171 := ⟨by decide +kernel, rfl⟩
theorem eX7_closing_171 : Dc cX7_closing 171 (.ireturn) 1 172 := ⟨by decide +kernel, rfl⟩
def fX7_closing_L44 (k : Int32 → Int32 → SS → Option (Int32 × SS)) (a1 : Int32) (a2 : Int32) (a3 : Int32) : Nat → Int32 → Int32 → Int32 → SS → Option (Int32 × SS)
  | 0, _, _, _, _ => none
  | n + 1, a4, a5, a6, c => if ((1 : Int32) <<< ((c.1 0) &&& 31)) ≤ a6 then k a4 a5 c else jn (fun (x5 : Int32) (x6 : Int32) (c7 : SS) => fX7_closing_L44 k a1 a2 a3 n x5 x6 (a6 + (1 : Int32)) c7) (fun j139 => if (a6 &&& a3) = (0 : Int32) then Option.bind (fX7_ones a6) (fun q9 => if q9 = a1 then Option.bind (fX7_ridersNow (sF c 2 (a3 ||| a6))) (fun q11 => Option.bind (fX7_goodOf q11.2 q11.1 (255 : Int32)) (fun q12 => jn (fun (x13 : Int32) => jn (fun (x14 : Int32) => jn (fun (x15 : Int32) => j139 x15 x14 q11.2) (fun j137 => if x13 = (0 : Int32) then j137 a4 else j137 a6)) (fun j123 => if x13 = (0 : Int32) then j123 a5 else j123 q12)) (fun j109 => jn (fun (_ : Unit) => j109 (1 : Int32)) (fun j104 => if a4 < (0 : Int32) then j104 () else if q12 ≤ a5 then j109 (0 : Int32) else j104 ())))) else j139 a4 a5 c) else j139 a4 a5 c)
def fX7_closing (c : SS) (p1 : Int32) (p2 : Int32) : Option (Int32 × SS) := if (fX7_in (p1).toInt64 (0 : Int64) (6 : Int64)) = (0 : Int32) then some ((-2 : Int32), c) else if (fX7_in (p2).toInt64 (0 : Int64) (1 : Int64)) = (0 : Int32) then some ((-2 : Int32), c) else Option.bind (fX7_noHold c) (fun q3 => fX7_closing_L44 (fun (x20 : Int32) (x21 : Int32) (c22 : SS) => if x20 < (0 : Int32) then some (x20, (sF c22 2 (c.1 2))) else if p2 = (1 : Int32) then some (x20, (sF c22 2 (c.1 2))) else some ((x21 + (1000 : Int32)), (sF c22 2 (c.1 2)))) p1 p2 (c.1 2) fu (-6 : Int32) (0 : Int32) (0 : Int32) q3)
set_option maxRecDepth 20000 in
theorem ctX7_closing_L44 (l : Launch) (G : tg_G) (A : Nat → Nat) (k : Int32 → Int32 → SS → Option (Int32 × SS)) (a1 : Int32) (a2 : Int32) (a3 : Int32) {z : Int32 × SS} (hk : ∀ (e4 : Int32) (e5 : Int32) (ec : SS), k e4 e5 ec = some z → V l G (tg_Zm G (fun v w1 => v = some (.int z.1) ∧ w1 = wM G A z.2) 0 0) tg_E0 (tg_R 3 71) "TramGodModel" "closing" cX7_closing 9 (some .int) 145 [(0, .ref (A 0)), (2, .int a2), (3, .int a3), (4, .int e4), (5, .int e5)] [] (wM G A ec) 0 0) : ∀ (n : Nat) (a4 : Int32) (a5 : Int32) (a6 : Int32) (c : SS), fX7_closing_L44 k a1 a2 a3 n a4 a5 a6 c = some z → V l G (tg_Zm G (fun v w1 => v = some (.int z.1) ∧ w1 = wM G A z.2) 0 0) tg_E0 (tg_R 3 71) "TramGodModel" "closing" cX7_closing 9 (some .int) 44 [(0, .ref (A 0)), (1, .int a1), (2, .int a2), (3, .int a3), (4, .int a4), (5, .int a5), (6, .int a6)] [] (wM G A c) 0 0 := by
  intro n
  induction n with
  | zero => intro a4 a5 a6 c h; exact absurd h (by simp [fX7_closing_L44])
  | succ n ih =>
    intro a4 a5 a6 c h
    unfold fX7_closing_L44 at h
    refine V_iload eX7_closing_44 6 rfl ?_
    refine V_iconst (v := (1 : Int32)) eX7_closing_46 rfl ?_
    refine V_aload_n eX7_closing_47 0 rfl ?_
    refine V_get (v := .int (c.1 0)) eX7_closing_48 inX7 0 rfl rfl 0 (Nat.le_of_ble_eq_true rfl) tw_645 rfl ?_
    refine V_ishl eX7_closing_51 ?_
    refine V_icmp_ge (tgt := 145) eX7_closing_52 rfl (fun hb4 => ?_) (fun hb4 => ?_)
    · replace h := (if_pos hb4).symm.trans h
      refine V_lv (lv' := [(0, .ref (A 0)), (2, .int a2), (3, .int a3), (4, .int a4), (5, .int a5)]) [0, 2, 3, 4, 5] rfl ?_
      exact hk a4 a5 c h
    · replace h := (if_neg hb4).symm.trans h
      refine V_iload eX7_closing_55 6 rfl ?_
      refine V_iload_n eX7_closing_57 3 rfl ?_
      refine V_iand eX7_closing_58 ?_
      refine jn_elim h (fun j => ∀ (x5 : Int32) (x6 : Int32) (c7 : SS), j x5 x6 c7 = some z → V l G (tg_Zm G (fun v w1 => v = some (.int z.1) ∧ w1 = wM G A z.2) 0 0) tg_E0 (tg_R 3 71) "TramGodModel" "closing" cX7_closing 9 (some .int) 139 [(0, .ref (A 0)), (1, .int a1), (2, .int a2), (3, .int a3), (4, .int x5), (5, .int x6), (6, .int a6)] [] (wM G A c7) 0 0) ?_ (fun j139 hj139 h => ?_)
      · intro x5 x6 c7 h
        refine V_iinc (v := (a6 + (1 : Int32))) (lv' := [(6, .int (a6 + (1 : Int32))), (0, .ref (A 0)), (1, .int a1), (2, .int a2), (3, .int a3), (4, .int x5), (5, .int x6)]) eX7_closing_139 6 rfl rfl (Nat.le_of_ble_eq_true rfl) rfl ?_
        refine V_goto (tgt := 44) eX7_closing_142 rfl ?_
        refine V_lv (lv' := [(0, .ref (A 0)), (1, .int a1), (2, .int a2), (3, .int a3), (4, .int x5), (5, .int x6), (6, .int (a6 + (1 : Int32)))]) [1, 2, 3, 4, 5, 6, 0] rfl ?_
        exact ih x5 x6 (a6 + (1 : Int32)) c7 h
      refine V_if_ne (tgt := 139) eX7_closing_59 rfl (fun hb8 => ?_) (fun hb8 => ?_)
      · replace h := (if_neg hb8).symm.trans h
        exact hj139 a4 a5 c h
      · replace h := (if_pos hb8).symm.trans h
        refine V_iload eX7_closing_62 6 rfl ?_
        obtain ⟨q9, hc9, h⟩ := Option.bind_eq_some_iff.mp h
        refine V_callSi (rest := []) eX7_closing_64 (ctX7_ones l G _ a6 hc9) tc_788 tw_786 tw_8 tw_787 hdX7_ones rfl ⟨Nat.le_of_ble_eq_true rfl, Nat.le_of_ble_eq_true rfl⟩ rfl (Nat.le_of_ble_eq_true rfl) ⟨Nat.zero_le _, Nat.zero_le _⟩ ?_
        refine V_iload_n eX7_closing_67 1 rfl ?_
        refine V_icmp_ne (tgt := 139) eX7_closing_68 rfl (fun hb10 => ?_) (fun hb10 => ?_)
        · replace h := (if_neg hb10).symm.trans h
          exact hj139 a4 a5 c h
        · replace h := (if_pos hb10).symm.trans h
          refine V_aload_n eX7_closing_71 0 rfl ?_
          refine V_iload_n eX7_closing_72 3 rfl ?_
          refine V_iload eX7_closing_73 6 rfl ?_
          refine V_ior eX7_closing_75 ?_
          refine V_put (w' := wM G A (sF c 2 (a3 ||| a6))) eX7_closing_76 inX7 tyX7 tyX7_ok nmX7 0 rfl rfl 2 (Nat.le_of_ble_eq_true rfl) tw_647 rfl rfl rfl rfl (Nat.le_of_ble_eq_true rfl) rfl ?_
          refine V_aload_n eX7_closing_79 0 rfl ?_
          refine V_aload_n eX7_closing_80 0 rfl ?_
          obtain ⟨q11, hc11, h⟩ := Option.bind_eq_some_iff.mp h
          refine V_callVi (rest := [.ref (A 0)]) eX7_closing_81 (ctX7_ridersNow l G A (sF c 2 (a3 ||| a6)) hc11) tc_830 tw_827 tw_8 tw_829 ts_26 0 rfl rfl hdX7_ridersNow rfl ⟨Nat.le_of_ble_eq_true rfl, Nat.le_of_ble_eq_true rfl⟩ rfl (Nat.le_of_ble_eq_true rfl) ⟨Nat.zero_le _, Nat.zero_le _⟩ ?_
          refine V_sipush (v := (255 : Int32)) eX7_closing_84 rfl ?_
          obtain ⟨q12, hc12, h⟩ := Option.bind_eq_some_iff.mp h
          refine V_callVi (rest := []) eX7_closing_87 (ctX7_goodOf l G A q11.2 q11.1 (255 : Int32) hc12) tc_846 tw_843 tw_8 tw_845 ts_29 0 rfl rfl hdX7_goodOf rfl ⟨Nat.le_of_ble_eq_true rfl, Nat.le_of_ble_eq_true rfl⟩ rfl (Nat.le_of_ble_eq_true rfl) ⟨Nat.zero_le _, Nat.zero_le _⟩ ?_
          refine V_istore (lv' := [(7, .int q12), (0, .ref (A 0)), (1, .int a1), (2, .int a2), (3, .int a3), (4, .int a4), (5, .int a5), (6, .int a6)]) eX7_closing_90 (Nat.le_of_ble_eq_true rfl) rfl ?_
          refine V_iload eX7_closing_92 5 rfl ?_
          refine jn_elim h (fun j => ∀ (x13 : Int32), j x13 = some z → V l G (tg_Zm G (fun v w1 => v = some (.int z.1) ∧ w1 = wM G A z.2) 0 0) tg_E0 (tg_R 3 71) "TramGodModel" "closing" cX7_closing 9 (some .int) 109 [(0, .ref (A 0)), (1, .int a1), (2, .int a2), (3, .int a3), (4, .int a4), (5, .int a5), (6, .int a6), (7, .int q12)] [.int x13] (wM G A q11.2) 0 0) ?_ (fun j109 hj109 h => ?_)
          · intro x13 h
            refine V_istore (lv' := [(8, .int x13), (0, .ref (A 0)), (1, .int a1), (2, .int a2), (3, .int a3), (4, .int a4), (5, .int a5), (6, .int a6), (7, .int q12)]) eX7_closing_109 (Nat.le_of_ble_eq_true rfl) rfl ?_
            refine V_iload eX7_closing_111 0 rfl ?_
            refine jn_elim h (fun j => ∀ (x14 : Int32), j x14 = some z → V l G (tg_Zm G (fun v w1 => v = some (.int z.1) ∧ w1 = wM G A z.2) 0 0) tg_E0 (tg_R 3 71) "TramGodModel" "closing" cX7_closing 9 (some .int) 123 [(0, .ref (A 0)), (1, .int a1), (2, .int a2), (3, .int a3), (4, .int a4), (6, .int a6), (8, .int x13)] [.int x14] (wM G A q11.2) 0 0) ?_ (fun j123 hj123 h => ?_)
            · intro x14 h
              refine V_istore (lv' := [(5, .int x14), (0, .ref (A 0)), (1, .int a1), (2, .int a2), (3, .int a3), (4, .int a4), (6, .int a6), (8, .int x13)]) eX7_closing_123 (Nat.le_of_ble_eq_true rfl) rfl ?_
              refine V_iload eX7_closing_125 7 rfl ?_
              refine jn_elim h (fun j => ∀ (x15 : Int32), j x15 = some z → V l G (tg_Zm G (fun v w1 => v = some (.int z.1) ∧ w1 = wM G A z.2) 0 0) tg_E0 (tg_R 3 71) "TramGodModel" "closing" cX7_closing 9 (some .int) 137 [(0, .ref (A 0)), (1, .int a1), (2, .int a2), (3, .int a3), (5, .int x14), (6, .int a6)] [.int x15] (wM G A q11.2) 0 0) ?_ (fun j137 hj137 h => ?_)
              · intro x15 h
                refine V_istore (lv' := [(4, .int x15), (0, .ref (A 0)), (1, .int a1), (2, .int a2), (3, .int a3), (5, .int x14), (6, .int a6)]) eX7_closing_137 (Nat.le_of_ble_eq_true rfl) rfl ?_
                refine V_lv (lv' := [(0, .ref (A 0)), (1, .int a1), (2, .int a2), (3, .int a3), (4, .int x15), (5, .int x14), (6, .int a6)]) [1, 2, 3, 4, 0, 5, 6] rfl ?_
                exact hj139 x15 x14 q11.2 h
              refine V_if_eq (tgt := 135) eX7_closing_127 rfl (fun hb16 => ?_) (fun hb16 => ?_)
              · replace h := (if_pos hb16).symm.trans h
                refine V_iload eX7_closing_135 5 rfl ?_
                refine V_lv (lv' := [(0, .ref (A 0)), (1, .int a1), (2, .int a2), (3, .int a3), (5, .int x14), (6, .int a6)]) [1, 2, 3, 4, 0, 6] rfl ?_
                exact hj137 a4 h
              · replace h := (if_neg hb16).symm.trans h
                refine V_iload eX7_closing_130 6 rfl ?_
                refine V_goto (tgt := 137) eX7_closing_132 rfl ?_
                refine V_lv (lv' := [(0, .ref (A 0)), (1, .int a1), (2, .int a2), (3, .int a3), (5, .int x14), (6, .int a6)]) [1, 2, 3, 4, 0, 6] rfl ?_
                exact hj137 a6 h
            refine V_if_eq (tgt := 121) eX7_closing_113 rfl (fun hb17 => ?_) (fun hb17 => ?_)
            · replace h := (if_pos hb17).symm.trans h
              refine V_iload eX7_closing_121 6 rfl ?_
              refine V_lv (lv' := [(0, .ref (A 0)), (1, .int a1), (2, .int a2), (3, .int a3), (4, .int a4), (6, .int a6), (8, .int x13)]) [1, 2, 3, 4, 5, 7, 0] rfl ?_
              exact hj123 a5 h
            · replace h := (if_neg hb17).symm.trans h
              refine V_iload eX7_closing_116 8 rfl ?_
              refine V_goto (tgt := 123) eX7_closing_118 rfl ?_
              refine V_lv (lv' := [(0, .ref (A 0)), (1, .int a1), (2, .int a2), (3, .int a3), (4, .int a4), (6, .int a6), (8, .int x13)]) [1, 2, 3, 4, 5, 7, 0] rfl ?_
              exact hj123 q12 h
          refine jn_elim h (fun j => j () = some z → V l G (tg_Zm G (fun v w1 => v = some (.int z.1) ∧ w1 = wM G A z.2) 0 0) tg_E0 (tg_R 3 71) "TramGodModel" "closing" cX7_closing 9 (some .int) 104 [(0, .ref (A 0)), (1, .int a1), (2, .int a2), (3, .int a3), (4, .int a4), (5, .int a5), (6, .int a6), (7, .int q12)] [] (wM G A q11.2) 0 0) ?_ (fun j104 hj104 h => ?_)
          · intro h
            refine V_iconst (v := (1 : Int32)) eX7_closing_104 rfl ?_
            refine V_goto (tgt := 109) eX7_closing_105 rfl ?_
            exact hj109 (1 : Int32) h
          refine V_if_lt (tgt := 104) eX7_closing_94 rfl (fun hb18 => ?_) (fun hb18 => ?_)
          · replace h := (if_pos hb18).symm.trans h
            refine V_lv (lv' := [(0, .ref (A 0)), (1, .int a1), (2, .int a2), (3, .int a3), (4, .int a4), (5, .int a5), (6, .int a6), (7, .int q12)]) [1, 2, 3, 4, 5, 6, 7, 0] rfl ?_
            exact hj104 h
          · replace h := (if_neg hb18).symm.trans h
            refine V_iload eX7_closing_97 0 rfl ?_
            refine V_iload eX7_closing_99 6 rfl ?_
            refine V_icmp_le (tgt := 108) eX7_closing_101 rfl (fun hb19 => ?_) (fun hb19 => ?_)
            · replace h := (if_pos hb19).symm.trans h
              refine V_iconst (v := (0 : Int32)) eX7_closing_108 rfl ?_
              refine V_lv (lv' := [(0, .ref (A 0)), (1, .int a1), (2, .int a2), (3, .int a3), (4, .int a4), (5, .int a5), (6, .int a6), (7, .int q12)]) [1, 2, 3, 4, 5, 6, 7, 0] rfl ?_
              exact hj109 (0 : Int32) h
            · replace h := (if_neg hb19).symm.trans h
              refine V_lv (lv' := [(0, .ref (A 0)), (1, .int a1), (2, .int a2), (3, .int a3), (4, .int a4), (5, .int a5), (6, .int a6), (7, .int q12)]) [1, 2, 3, 4, 5, 6, 7, 0] rfl ?_
              exact hj104 h
set_option maxRecDepth 20000 in
theorem ctX7_closing (l : Launch) (G : tg_G) (A : Nat → Nat) (c : SS) (p1 : Int32) (p2 : Int32) {z : Int32 × SS} (h : fX7_closing c p1 p2 = some z) : Mt l G yX7_closing cX7_closing 9 (some .int) (tg_R 3 71) [.ref (A 0), .int p1, .int p2] (wM G A c) (fun v w1 => v = some (.int z.1) ∧ w1 = wM G A z.2) := by
  refine Mt_of2 (own := "TramGodModel") (nm := "closing") rfl rfl rfl (Nat.le_of_ble_eq_true rfl) (lv := [(0, .ref (A 0)), (1, .int p1), (2, .int p2)]) rfl ?_
  unfold fX7_closing at h
  refine V_iload_n eX7_closing_0 1 rfl ?_
  refine V_i2l eX7_closing_1 ?_
  refine V_lconst (v := (0 : Int64)) eX7_closing_2 rfl ?_
  refine V_ldc2 eX7_closing_3 tw_947 ?_
  refine V_callSi (rest := []) eX7_closing_6 (ctX7_in l G _ (p1).toInt64 (0 : Int64) (6 : Int64) rfl) tc_748 tw_746 tw_8 tw_747 hdX7_in rfl ⟨Nat.le_of_ble_eq_true rfl, Nat.le_of_ble_eq_true rfl⟩ rfl (Nat.le_of_ble_eq_true rfl) ⟨Nat.zero_le _, Nat.zero_le _⟩ ?_
  refine V_if_eq (tgt := 22) eX7_closing_9 rfl (fun hb1 => ?_) (fun hb1 => ?_)
  · replace h := (if_pos hb1).symm.trans h
    refine V_bipush (v := (-2 : Int32)) eX7_closing_22 rfl ?_
    obtain rfl := Option.some.inj h
    exact V_ret eX7_closing_24 rfl ⟨rfl, rfl⟩
  · replace h := (if_neg hb1).symm.trans h
    refine V_iload_n eX7_closing_12 2 rfl ?_
    refine V_i2l eX7_closing_13 ?_
    refine V_lconst (v := (0 : Int64)) eX7_closing_14 rfl ?_
    refine V_lconst (v := (1 : Int64)) eX7_closing_15 rfl ?_
    refine V_callSi (rest := []) eX7_closing_16 (ctX7_in l G _ (p2).toInt64 (0 : Int64) (1 : Int64) rfl) tc_748 tw_746 tw_8 tw_747 hdX7_in rfl ⟨Nat.le_of_ble_eq_true rfl, Nat.le_of_ble_eq_true rfl⟩ rfl (Nat.le_of_ble_eq_true rfl) ⟨Nat.zero_le _, Nat.zero_le _⟩ ?_
    refine V_if_ne (tgt := 25) eX7_closing_19 rfl (fun hb2 => ?_) (fun hb2 => ?_)
    · replace h := (if_neg hb2).symm.trans h
      refine V_aload_n eX7_closing_25 0 rfl ?_
      refine V_get (v := .int (c.1 2)) eX7_closing_26 inX7 0 rfl rfl 2 (Nat.le_of_ble_eq_true rfl) tw_647 rfl ?_
      refine V_istore_n (lv' := [(3, .int (c.1 2)), (0, .ref (A 0)), (1, .int p1), (2, .int p2)]) eX7_closing_29 (Nat.le_of_ble_eq_true rfl) rfl ?_
      refine V_aload_n eX7_closing_30 1 rfl ?_
      obtain ⟨q3, hc3, h⟩ := Option.bind_eq_some_iff.mp h
      refine V_callVv (rest := []) eX7_closing_31 (ctX7_noHold l G A c hc3) tc_870 tw_867 tw_8 tw_869 ts_32 0 rfl rfl hdX7_noHold rfl ⟨Nat.le_of_ble_eq_true rfl, Nat.le_of_ble_eq_true rfl⟩ rfl (Nat.le_of_ble_eq_true rfl) ⟨Nat.zero_le _, Nat.zero_le _⟩ ?_
      refine V_bipush (v := (-6 : Int32)) eX7_closing_34 rfl ?_
      refine V_istore (lv' := [(4, .int (-6 : Int32)), (3, .int (c.1 2)), (0, .ref (A 0)), (1, .int p1), (2, .int p2)]) eX7_closing_36 (Nat.le_of_ble_eq_true rfl) rfl ?_
      refine V_iconst (v := (0 : Int32)) eX7_closing_38 rfl ?_
      refine V_istore (lv' := [(5, .int (0 : Int32)), (4, .int (-6 : Int32)), (3, .int (c.1 2)), (0, .ref (A 0)), (1, .int p1), (2, .int p2)]) eX7_closing_39 (Nat.le_of_ble_eq_true rfl) rfl ?_
      refine V_iconst (v := (0 : Int32)) eX7_closing_41 rfl ?_
      refine V_istore (lv' := [(6, .int (0 : Int32)), (5, .int (0 : Int32)), (4, .int (-6 : Int32)), (3, .int (c.1 2)), (0, .ref (A 0)), (1, .int p1), (2, .int p2)]) eX7_closing_42 (Nat.le_of_ble_eq_true rfl) rfl ?_
      refine V_lv (lv' := [(0, .ref (A 0)), (1, .int p1), (2, .int p2), (3, .int (c.1 2)), (4, .int (-6 : Int32)), (5, .int (0 : Int32)), (6, .int (0 : Int32))]) [4, 5, 6, 3, 2, 1, 0] rfl ?_
      refine ctX7_closing_L44 l G A _ p1 p2 (c.1 2) ?_ fu (-6 : Int32) (0 : Int32) (0 : Int32) q3 h
      · intro x20 x21 c22 h
        refine V_aload_n eX7_closing_145 0 rfl ?_
        refine V_iload_n eX7_closing_146 2 rfl ?_
        refine V_put (w' := wM G A (sF c22 2 (c.1 2))) eX7_closing_147 inX7 tyX7 tyX7_ok nmX7 0 rfl rfl 2 (Nat.le_of_ble_eq_true rfl) tw_647 rfl rfl rfl rfl (Nat.le_of_ble_eq_true rfl) rfl ?_
        refine V_iload eX7_closing_150 3 rfl ?_
        refine V_if_lt (tgt := 160) eX7_closing_152 rfl (fun hb23 => ?_) (fun hb23 => ?_)
        · replace h := (if_pos hb23).symm.trans h
          refine V_iload eX7_closing_160 3 rfl ?_
          refine V_goto (tgt := 171) eX7_closing_162 rfl ?_
          obtain rfl := Option.some.inj h
          exact V_ret eX7_closing_171 rfl ⟨rfl, rfl⟩
        · replace h := (if_neg hb23).symm.trans h
          refine V_iload_n eX7_closing_155 1 rfl ?_
          refine V_iconst (v := (1 : Int32)) eX7_closing_156 rfl ?_
          refine V_icmp_ne (tgt := 165) eX7_closing_157 rfl (fun hb24 => ?_) (fun hb24 => ?_)
          · replace h := (if_neg hb24).symm.trans h
            refine V_iload eX7_closing_165 4 rfl ?_
            refine V_sipush (v := (1000 : Int32)) eX7_closing_167 rfl ?_
            refine V_iadd eX7_closing_170 ?_
            obtain rfl := Option.some.inj h
            exact V_ret eX7_closing_171 rfl ⟨rfl, rfl⟩
          · replace h := (if_pos hb24).symm.trans h
            refine V_iload eX7_closing_160 3 rfl ?_
            refine V_goto (tgt := 171) eX7_closing_162 rfl ?_
            obtain rfl := Option.some.inj h
            exact V_ret eX7_closing_171 rfl ⟨rfl, rfl⟩
    · replace h := (if_pos hb2).symm.trans h
      refine V_bipush (v := (-2 : Int32)) eX7_closing_22 rfl ?_
      obtain rfl := Option.some.inj h
      exact V_ret eX7_closing_24 rfl ⟨rfl, rfl⟩
