def tg_inm : SS := (fun k => if k = 0 then 3 else if k = 10 then 4 else if k = 11 then 9 else 0, fun k => if k = 1 then (upd (upd (upd (upd (upd (upd (fun _ => 0) 0 (5 : Int32)) 1 (5 : Int32)) 2 (5 : Int32)) 3 (5 : Int32)) 4 (5 : Int32)) 5 (5 : Int32)) else fun _ => 0)
set_option maxRecDepth 20000 in
set_option maxHeartbeats 1000000 in
theorem lw_K {s : State} {b : Nat} (hts : ∀ w ∈ lw_tbl, w.before #[Value.ref b] s = true) (hgv : (Jvm.Cond.and given_1 narrow_1).before #[Value.ref b] s = true) : ∃ G : tg_G, tg_K G (fun q : Nat => s.heap.size ≤ q) s := by
  have ht : ∀ w ∈ tg_tbl, w.before #[Value.ref b] s = true := fun w hw => hts w (List.mem_filter.mp hw).1
  obtain ⟨c0, iS0, hKn0⟩ := u_known (C := RX0) (T := TX0) (N := 9) (n := 9) ht inX0 (ht _ tw_173)
  obtain ⟨c1, iS1, hKn1⟩ := u_known (C := RX1) (T := TX1) (N := 2) (n := 2) ht inX1 (ht _ tw_21)
  obtain ⟨c2, iS2, hKn2⟩ := u_known (C := RX2) (T := TX2) (N := 6) (n := 6) ht inX2 (ht _ tw_128)
  obtain ⟨c3, iS3, hKn3⟩ := u_known (C := RX3) (T := TX3) (N := 4) (n := 4) ht inX3 (ht _ tw_154)
  obtain ⟨c4, iS4, hKn4⟩ := u_known (C := RX4) (T := TX4) (N := 2) (n := 2) ht inX4 (ht _ tw_114)
  obtain ⟨c5, iS5, hKn5⟩ := u_known (C := RX5) (T := TX5) (N := 15) (n := 15) ht inX5 (ht _ tw_37)
  obtain ⟨c6, iS6, hKn6⟩ := u_known (C := RX6) (T := TX6) (N := 9) (n := 9) ht inX6 (ht _ tw_13)
  obtain ⟨c7, iS7, hKn7⟩ := u_known (C := RX7) (T := TX7) (N := 31) (n := 31) ht inX7 (ht _ tw_639)
  obtain ⟨cI, kI, pI, f1, f2, f3⟩ := Cond.arrayClass_spec (ht _ ta_int)
  obtain ⟨cZ, kZ, pZ, g1, g2, g3⟩ := Cond.arrayClass_spec (ht _ ta_bool)
  have hAO : va_AO "TramGod$World" s := va_AO.of (hts _ (List.mem_of_getElem? (i := 161) (by decide +kernel)))
  obtain ⟨pW, cW, kW, e1, e2, e3, e4, e5⟩ := Cond.arrayOver_spec hAO
  have hs := flat_of_before _ hgv
  have hA : ∀ a : Nat, a < s.heap.size → ¬ (fun q : Nat => s.heap.size ≤ q) a := fun a h => Nat.not_le.mpr h
  have hlen : (Term.length (.static "TramGod" "CHOOSE" "[I")).eval #[Value.ref b] s none [] s = some (.int (Int32.ofNat 84)) := va_eqt (hs _ (List.mem_of_getElem? (i := 6) (by decide +kernel)))
  have hel : ∀ j : Nat, j < 84 → (Term.elem (.static "TramGod" "CHOOSE" "[I") (.int (Int32.ofNat j))).eval #[Value.ref b] s none [] s = some (Value.int (tg_chf j)) := fun j hj => va_eqt (hs _ (va_run (f := fun j => Cond.eq (.elem (.static "TramGod" "CHOOSE" "[I") (.int (Int32.ofNat j))) (.int (tg_chf j))) (p := 7) (N := 84) (by decide +kernel) j hj))
  obtain ⟨t, ht1, ht2⟩ := va_Tof (ty := .int) (N := 84) (f := fun j => Value.int (tg_chf j)) (A := fun q : Nat => s.heap.size ≤ q) (by decide) (hs (.arrayOf (.static "TramGod" "CHOOSE" "[I") .int) (List.mem_of_getElem? (i := 5) (by decide +kernel))) hlen hel hA
  have hZ := va_Zref (C := "TramGod") (n := "CHOOSE") (d := "[I") (hts _ (List.mem_of_getElem? (i := 565) (by decide +kernel))) (ht _ tw_1) ht1 hA
  refine ⟨((fun k => if k = 0 then c0 else if k = 1 then c1 else if k = 2 then c2 else if k = 3 then c3 else if k = 4 then c4 else if k = 5 then c5 else if k = 6 then c6 else c7, fun k => if k = 0 then iS0 else if k = 1 then iS1 else if k = 2 then iS2 else if k = 3 then iS3 else if k = 4 then iS4 else if k = 5 then iS5 else if k = 6 then iS6 else iS7), cI, cZ, cW, t), ⟨?_, ?_⟩, hZ, ht2, ?_, hAO⟩
  · intro k q hq
    match k, hq with
    | 0, hq => cases hq; exact hKn0
    | 1, hq => cases hq; exact hKn1
    | 2, hq => cases hq; exact hKn2
    | 3, hq => cases hq; exact hKn3
    | 4, hq => cases hq; exact hKn4
    | 5, hq => cases hq; exact hKn5
    | 6, hq => cases hq; exact hKn6
    | 7, hq => cases hq; exact hKn7
    | k + 8, hq => simp [classes] at hq
  · intro k q hq
    match k, hq with
    | 0, hq => cases hq; exact ⟨fun n z => ⟨fun k h => (by cases h), kI, f2, pI, f3⟩, f1⟩
    | 1, hq => cases hq; exact ⟨fun n z => ⟨fun k h => (by cases h), kZ, g2, pZ, g3⟩, g1⟩
    | 2, hq => cases hq; exact ⟨fun n z => ⟨fun k h => (by cases h), kW, e3, pW, e4⟩, kW, pW, e3, e4, e1, e5⟩
    | k + 3, hq => simp [tg_T] at hq
  · simp only [tg_nest, List.forall_mem_cons]
    exact ⟨va_Nw.of rfl (hts _ tw_22), va_Nw.of rfl (hts _ tw_38), va_Nw.of rfl (hts _ tw_262), va_Nw.of rfl (hts _ tw_290), va_Nw.of rfl (hts _ tw_514), va_Nw.of rfl (hts _ tw_515), fun _ h => absurd h List.not_mem_nil⟩
theorem pm_2 {α : Type} (a : List α) (g : α) (b M : List α) : ((a ++ g :: b) ++ M).Perm (((a ++ b) ++ [g]) ++ M) := by
  refine List.Perm.append_right M ?_
  refine List.perm_middle.trans ?_
  exact (List.perm_append_comm (l₁ := [g]) (l₂ := a ++ b))
set_option maxRecDepth 20000 in
set_option maxHeartbeats 1000000 in
theorem law_start {l : Launch} {G : tg_G} {nm : String} {b L : Nat} {xs : Nat → Int32} (hL : L ≤ 3584) {Inv : SS → SS → tg_I → tg_I → Prop} (ok_say : OK_say Inv) (ok_wipe : OK_wipe Inv) (ok_fault : OK_fault Inv) (ok_line : OK_line Inv) (ok_close : OK_close Inv) (ok_person : OK_person Inv) (ok_leave : OK_leave Inv) (ok_nights : OK_nights Inv) (ok_set : OK_set Inv) (ok_judge : OK_judge Inv) (ok_riders : OK_riders Inv) (ok_good : OK_good Inv) (ok_leaves : OK_leaves Inv) (ok_vain : OK_vain Inv) (ok_best : OK_best Inv) (ok_worth : OK_worth Inv) (ok_meant : OK_meant Inv) (ok_bars : OK_bars Inv) (ok_fund : OK_fund Inv) (ok_rival : OK_rival Inv) (ok_closing : OK_closing Inv) (ok_seen : OK_seen Inv) (ok_forget : OK_forget Inv) (ok_held : OK_held Inv) (ok_runs : OK_runs Inv) (ok_mean : OK_mean Inv) (ok_waits : OK_waits Inv) (ok_year : OK_year Inv) (ok_image : OK_image Inv) (ok_restore : OK_restore Inv) (ok_told : OK_told Inv) (hini : Inv tg_ini tg_inm none none) : V l G ZL (EL b L xs) room_1 "TramGodLaw" nm code 4 ret 0 [(0, .ref b)] [] [] 0 0 := by
  refine V_new tyX6 [.null, .null, .null, .null, .null, .null, .null, .null, .null] eL_0 inX6 tyX6_ok tw_12 tw_13 tw_1 (ci := 6) rfl (by decide +kernel) (Nat.le_of_ble_eq_true rfl) (Nat.le_of_ble_eq_true rfl) (fun h0 => ?_)
  refine V_dup eL_3 rfl ?_
  refine V_callI (rest := [.ref h0]) eL_4 (ktX6_init l G h0) tc_16 tw_14 tw_1 tw_15 rfl hdX6_init rfl ⟨Nat.le_of_ble_eq_true rfl, Nat.le_of_ble_eq_true rfl⟩ ⟨Nat.le_of_ble_eq_true rfl, Nat.le_of_ble_eq_true rfl⟩ rfl (Nat.le_of_ble_eq_true rfl) (fun v w1 hq => ?_)
  obtain ⟨rfl, q1, q1_1, q2, q1_2, q2_2, q3_2, q4_2, q5_2, q6_2, q7_2, q3, q4, q1_4, q5, q1_5, q2_5, q3_5, q4_5, q6, q1_6, q2_6, q7, q1_7, q2_7, q3_7, q4_7, q8, q9, rfl⟩ := hq
  refine V_steq (st' := [.ref h0]) rfl ?_
  refine V_astore_n (lv' := [(1, .ref h0), (0, .ref b)]) eL_7 (Nat.le_of_ble_eq_true rfl) rfl ?_
  refine V_new tyX7 [.int 0, .null, .int 0, .int 0, .null, .null, .null, .null, .null, .null, .int 0, .int 0, .null, .null, .int 0, .null, .int 0, .null, .null, .int 0, .int 0, .null, .null, .null, .null, .null, .int 0, .null, .null, .int 0, .int 0] eL_8 inX7 tyX7_ok tw_638 tw_639 tw_8 (ci := 7) rfl (by decide +kernel) (Nat.le_of_ble_eq_true rfl) (Nat.le_of_ble_eq_true rfl) (fun g0 => ?_)
  refine V_dup eL_11 rfl ?_
  refine V_callIF (rest := [.ref g0]) (wc := [(g0, .inr (7, [.int 0, .null, .int 0, .int 0, .null, .null, .null, .null, .null, .null, .int 0, .int 0, .null, .null, .int 0, .null, .int 0, .null, .null, .int 0, .int 0, .null, .null, .null, .null, .null, .int 0, .null, .null, .int 0, .int 0]))]) (wr := [(h0, .inr (6, [.ref q1, .ref q2, .ref q3, .ref q4, .ref q5, .ref q6, .ref q7, .ref q8, .ref q9])), (q1, .inr (1, [.ref q1_1, .int 0])), (q1_1, .inl (G.2.1, 20, .inl (fun _ => 0))), (q2, .inr (5, [.int (3 : Int32), .int 0, .int (4 : Int32), .int (9 : Int32), .int 0, .int 0, .int 0, .int 0, .ref q1_2, .ref q2_2, .ref q3_2, .ref q4_2, .ref q5_2, .ref q6_2, .ref q7_2])), (q1_2, .inl (G.2.1, 6, .inl (upd (upd (upd (upd (upd (upd (fun _ => 0) 0 (5 : Int32)) 1 (5 : Int32)) 2 (5 : Int32)) 3 (0 : Int32)) 4 (0 : Int32)) 5 (0 : Int32)))), (q2_2, .inl (G.2.1, 8, .inl (fun _ => 0))), (q3_2, .inl (G.2.1, 8, .inl (fun _ => 0))), (q4_2, .inl (G.2.1, 8, .inl (fun _ => 0))), (q5_2, .inl (G.2.1, 8, .inl (fun _ => 0))), (q6_2, .inl (G.2.1, 8, .inl (fun _ => 0))), (q7_2, .inl (G.2.1, 8, .inl (fun _ => 0))), (q3, .inl (G.2.2.2.1, 2, .inr (.inr (.inr (.inr (fun _ => none)))))), (q4, .inr (4, [.ref q2, .ref q1_4])), (q1_4, .inl (G.2.1, 8, .inl (fun _ => 0))), (q5, .inr (2, [.ref q2, .ref q4, .ref q1_5, .ref q2_5, .ref q3_5, .ref q4_5])), (q1_5, .inl (G.2.1, 66, .inl (fun _ => 0))), (q2_5, .inl (G.2.1, 6, .inl (fun _ => 0))), (q3_5, .inl (G.2.1, 77, .inl (fun _ => 0))), (q4_5, .inl (G.2.1, 66, .inl (fun _ => 0))), (q6, .inr (3, [.ref q2, .ref q5, .ref q1_6, .ref q2_6])), (q1_6, .inl (G.2.1, 70, .inl (fun _ => 0))), (q2_6, .inl (G.2.1, 328, .inl (fun _ => 0))), (q7, .inr (0, [.ref q2, .ref q4, .ref q1_7, .ref q2_7, .ref q3_7, .ref q4_7, .int 0, .int 0, .int 0])), (q1_7, .inl (G.2.1, 462, .inl (fun _ => 0))), (q2_7, .inl (G.2.1, 462, .inl (fun _ => 0))), (q3_7, .inl (G.2.1, 6, .inl (fun _ => 0))), (q4_7, .inl (G.2.1, 6, .inl (fun _ => 0))), (q8, .inl (G.2.1, 6, .inl (fun _ => 0))), (q9, .inl (G.2.1, 6, .inl (fun _ => 0)))]) eL_12 (ktX7_init l G g0) tc_642 tw_640 tw_8 tw_641 rfl hdX7_init rfl ⟨Nat.le_of_ble_eq_true rfl, Nat.le_of_ble_eq_true rfl⟩ ⟨Nat.le_of_ble_eq_true rfl, Nat.le_of_ble_eq_true rfl⟩ rfl (Nat.le_of_ble_eq_true rfl) [29] [0, 1, 2, 3, 4, 5, 6, 7, 8, 9, 10, 11, 12, 13, 14, 15, 16, 17, 18, 19, 20, 21, 22, 23, 24, 25, 26, 27, 28] rfl rfl rfl (by decide) (by decide) (fun v w1 hq => ?_)
  obtain ⟨rfl, mq1, mq2, mq3, mq4, mq5, mq6, mq7, mq8, mq9, mq10, mq11, mq12, mq13, mq14, mq15, mq16, mq17, mq18, mq19, rfl⟩ := hq
  refine V_steq (st' := [.ref g0]) rfl ?_
  refine V_astore_n (lv' := [(2, .ref g0), (1, .ref h0), (0, .ref b)]) eL_15 (Nat.le_of_ble_eq_true rfl) rfl ?_
  refine V_iconst (v := (0 : Int32)) eL_16 rfl ?_
  refine V_istore_n (lv' := [(3, .int (0 : Int32)), (2, .ref g0), (1, .ref h0), (0, .ref b)]) eL_17 (Nat.le_of_ble_eq_true rfl) rfl ?_
  refine V_lv (lv' := [(0, .ref b), (1, .ref h0), (2, .ref g0), (3, .int (nI 0))]) [3, 2, 1, 0] rfl ?_
  refine V_perm (pm_2 (α := Nat × va_E) ([(h0, .inr (6, [.ref q1, .ref q2, .ref q3, .ref q4, .ref q5, .ref q6, .ref q7, .ref q8, .ref q9])), (q1, .inr (1, [.ref q1_1, .int 0])), (q1_1, .inl (G.2.1, 20, .inl (fun _ => 0))), (q2, .inr (5, [.int (3 : Int32), .int 0, .int (4 : Int32), .int (9 : Int32), .int 0, .int 0, .int 0, .int 0, .ref q1_2, .ref q2_2, .ref q3_2, .ref q4_2, .ref q5_2, .ref q6_2, .ref q7_2])), (q1_2, .inl (G.2.1, 6, .inl (upd (upd (upd (upd (upd (upd (fun _ => 0) 0 (5 : Int32)) 1 (5 : Int32)) 2 (5 : Int32)) 3 (0 : Int32)) 4 (0 : Int32)) 5 (0 : Int32)))), (q2_2, .inl (G.2.1, 8, .inl (fun _ => 0))), (q3_2, .inl (G.2.1, 8, .inl (fun _ => 0))), (q4_2, .inl (G.2.1, 8, .inl (fun _ => 0))), (q5_2, .inl (G.2.1, 8, .inl (fun _ => 0))), (q6_2, .inl (G.2.1, 8, .inl (fun _ => 0))), (q7_2, .inl (G.2.1, 8, .inl (fun _ => 0)))]) ((q3, .inl (G.2.2.2.1, 2, .inr (.inr (.inr (.inr (fun _ => none))))))) ([(q4, .inr (4, [.ref q2, .ref q1_4])), (q1_4, .inl (G.2.1, 8, .inl (fun _ => 0))), (q5, .inr (2, [.ref q2, .ref q4, .ref q1_5, .ref q2_5, .ref q3_5, .ref q4_5])), (q1_5, .inl (G.2.1, 66, .inl (fun _ => 0))), (q2_5, .inl (G.2.1, 6, .inl (fun _ => 0))), (q3_5, .inl (G.2.1, 77, .inl (fun _ => 0))), (q4_5, .inl (G.2.1, 66, .inl (fun _ => 0))), (q6, .inr (3, [.ref q2, .ref q5, .ref q1_6, .ref q2_6])), (q1_6, .inl (G.2.1, 70, .inl (fun _ => 0))), (q2_6, .inl (G.2.1, 328, .inl (fun _ => 0))), (q7, .inr (0, [.ref q2, .ref q4, .ref q1_7, .ref q2_7, .ref q3_7, .ref q4_7, .int 0, .int 0, .int 0])), (q1_7, .inl (G.2.1, 462, .inl (fun _ => 0))), (q2_7, .inl (G.2.1, 462, .inl (fun _ => 0))), (q3_7, .inl (G.2.1, 6, .inl (fun _ => 0))), (q4_7, .inl (G.2.1, 6, .inl (fun _ => 0))), (q8, .inl (G.2.1, 6, .inl (fun _ => 0))), (q9, .inl (G.2.1, 6, .inl (fun _ => 0)))]) _) ?_
  rw [show (fun _ : Nat => (none : Option Nat)) = wIr none none from by funext k; unfold wIr; simp]
  exact law_loop hL ok_say ok_wipe ok_fault ok_line ok_close ok_person ok_leave ok_nights ok_set ok_judge ok_riders ok_good ok_leaves ok_vain ok_best ok_worth ok_meant ok_bars ok_fund ok_rival ok_closing ok_seen ok_forget ok_held ok_runs ok_mean ok_waits ok_year ok_image ok_restore ok_told 600 0 (fun k => ([h0, q1, q1_1, q2, q1_2, q2_2, q3_2, q4_2, q5_2, q6_2, q7_2, q4, q1_4, q5, q1_5, q2_5, q3_5, q4_5, q6, q1_6, q2_6, q7, q1_7, q2_7, q3_7, q4_7, q8, q9, q3] : List Nat).getD k 0) (fun k => ([g0, mq1, mq2, mq3, mq4, mq5, mq6, mq7, mq8, mq9, mq10, mq11, mq12, mq13, mq14, mq15, mq16, mq17, mq18, mq19] : List Nat).getD k 0) tg_ini tg_inm none none hini (Nat.le_of_ble_eq_true rfl) (by omega)
theorem whole_of {p : Program} {e : Env} {s : State} {m : MethodId} {below : List Frame} {meth : Method} {c : Code} (l : Launch) {b L : Nat} {xs : Nat → Int32} (hL : L ≤ 3584) (C0 : lw_At p s m meth c b L xs) {Inv : SS → SS → tg_I → tg_I → Prop} (ok_say : OK_say Inv) (ok_wipe : OK_wipe Inv) (ok_fault : OK_fault Inv) (ok_line : OK_line Inv) (ok_close : OK_close Inv) (ok_person : OK_person Inv) (ok_leave : OK_leave Inv) (ok_nights : OK_nights Inv) (ok_set : OK_set Inv) (ok_judge : OK_judge Inv) (ok_riders : OK_riders Inv) (ok_good : OK_good Inv) (ok_leaves : OK_leaves Inv) (ok_vain : OK_vain Inv) (ok_best : OK_best Inv) (ok_worth : OK_worth Inv) (ok_meant : OK_meant Inv) (ok_bars : OK_bars Inv) (ok_fund : OK_fund Inv) (ok_rival : OK_rival Inv) (ok_closing : OK_closing Inv) (ok_seen : OK_seen Inv) (ok_forget : OK_forget Inv) (ok_held : OK_held Inv) (ok_runs : OK_runs Inv) (ok_mean : OK_mean Inv) (ok_waits : OK_waits Inv) (ok_year : OK_year Inv) (ok_image : OK_image Inv) (ok_restore : OK_restore Inv) (ok_told : OK_told Inv) (hini : Inv tg_ini tg_inm none none) : W p l e room_1 s m #[Value.ref b] below meth c s.heap [] 0 0 (lw_Z below #[Value.ref b] s) (entryFrame m ([Value.ref b] : List Value).toArray 4) := by
  obtain ⟨hx, hb, hr, hml, hown, hts, hX, hbl, hlocks, hgv⟩ := id C0
  obtain ⟨G, hK⟩ := lw_K hts hgv
  have ht : ∀ w ∈ tg_tbl, w.before #[Value.ref b] s = true := fun w hw => hts w (List.mem_filter.mp hw).1
  have hP : va_P G.1 classes [] s.heap := fun k q h => by simp at h
  have hD : va_D (fun q : Nat => s.heap.size ≤ q) [] := ⟨fun i j p q h => by simp at h, fun k q h => by simp at h⟩
  have hl := lv_entry ([.ref b]) (n := 4) (Nat.le_of_ble_eq_true rfl)
  rw [lg_entry_eq]
  exact law_start (nm := meth.name) hL ok_say ok_wipe ok_fault ok_line ok_close ok_person ok_leave ok_nights ok_set ok_judge ok_riders ok_good ok_leaves ok_vain ok_best ok_worth ok_meant ok_bars ok_fund ok_rival ok_closing ok_seen ok_forget ok_held ok_runs ok_mean ok_waits ok_year ok_image ok_restore ok_told hini p e s m #[Value.ref b] below meth c (fun q : Nat => s.heap.size ≤ q) ⟨hx, hb, hr, hml, hown, ht, hlocks, fun _ h => h, rfl, hK, hX, hbl, Nat.not_le.mpr hbl, fun _ h => h⟩ s.heap [] hP hD va_S.rf _ hl
