/-! the start: the relation holds of new objects; the law's walk -/
theorem tg_hini : Inv tg_ini tg_inm none none := by
  have hS : vS tg_ini = 0 := by decide +kernel
  have z2 : ∀ k p, k ≠ 1 → tg_ini.2 k p = 0 := fun k p hk => by
    show (if k = 1 then _ else fun _ => (0 : Int32)) p = 0
    rw [if_neg hk]
  have n0 : (0 : Int32) = nI ((0 : Int32).toNatClampNeg) := by decide +kernel
  have c0 : (0 : Int32).toNatClampNeg = 0 := by decide +kernel
  refine ⟨⟨⟨by decide +kernel, by decide +kernel, by decide +kernel⟩, fun s _ => b_0 s, ⟨by decide +kernel, by decide +kernel⟩, ⟨by decide +kernel, by decide +kernel⟩, fun p _ => b_0 p, ⟨by decide +kernel, by decide +kernel⟩, fun p _ => ⟨b_0 p, b_0 p⟩, by decide +kernel, fun p _ => ?_⟩, ⟨rfl, rfl, rfl, rfl, rfl, rfl, by decide +kernel, fun p _ => ⟨rfl, rfl, rfl, rfl, rfl, rfl⟩, fun k hk => absurd hk (by rw [hS]; omega), fun p _ => ⟨⟨fun q => ?_, fun ⟨k, hk, _⟩ => absurd hk (by rw [hS]; omega)⟩, ⟨fun q => ?_, fun ⟨k, hk, _⟩ => absurd hk (by rw [hS]; omega)⟩, fun q => ?_⟩⟩, ⟨rfl, ⟨by decide +kernel, by decide +kernel⟩, fun j _ => ⟨rfl, by show (0 : Int) ≤ (0 : Int32).toInt; decide +kernel, by show (0 : Int32).toInt ≤ 126; decide +kernel⟩⟩, rfl, rfl, fun a _ => ⟨by show (0 : Int32).toInt ≤ 99; decide +kernel, by show (0 : Int32).toInt ≤ 99; decide +kernel⟩⟩
  · have g0 : gd9 (0 : Int32) := by unfold gd9; decide +kernel
    unfold pOK va vco
    rw [z2 2 p (by omega), z2 3 p (by omega), z2 4 p (by omega), z2 5 p (by omega), z2 6 p (by omega), z2 7 p (by omega), c0]
    refine ⟨⟨rfl, by omega, fun q => ?_⟩, ⟨rfl, by omega⟩, ⟨g0, g0, g0⟩, 0, by omega, rfl⟩
    exact absurd q (by show ¬ bt 0 p = true; rw [b_0]; decide)
  · exact absurd q (by show ¬ bt 0 p = true; rw [b_0]; decide)
  · exact absurd q (by show ¬ bt 0 p = true; rw [b_0]; decide)
  · exact absurd q (by show ¬ bt 0 p = true; rw [b_0]; decide)
theorem whole_start {p : Program} {e : Env} {s : State} {m : MethodId} {below : List Frame} {meth : Method} {c : Code} (l : Launch) (hflags : l.flags = flags0) {b L : Nat} {xs : Nat → Int32} (hL : L ≤ 3584) (C0 : lw_At p s m meth c b L xs) : W p l e room_1 s m #[Value.ref b] below meth c s.heap [] 0 0 (lw_Z below #[Value.ref b] s) (entryFrame m ([Value.ref b] : List Value).toArray 4) :=
  whole_of l hL C0 ok_say ok_wipe ok_fault ok_line ok_close ok_person ok_leave ok_nights ok_set ok_judge ok_riders ok_good ok_leaves ok_vain ok_best ok_worth ok_meant ok_bars ok_fund ok_rival ok_closing ok_seen ok_forget ok_held ok_runs ok_mean ok_waits ok_year ok_image ok_restore ok_told tg_hini
