theorem nI_lit {x : Int32} {k : Nat} (hk : k < 2 ^ 31) (h : x.toInt = (k : Int)) : x = nI k := Int32.toInt_inj.mp (by rw [h, nI_ti hk])
theorem div_ti {x y : Int32} (h : ¬ (x.toInt = -2147483648 ∧ y.toInt = -1)) : (x / y).toInt = x.toInt.tdiv y.toInt := by
  rw [Int32.toInt_div]
  have hx1 := x.le_toInt
  have hx2 := x.toInt_lt
  have hy1 := y.le_toInt
  have hy2 := y.toInt_lt
  apply Int.bmod_eq_of_le
  · by_cases hy : y.toInt = 0
    · rw [hy]; simp
    · have h1 : (x.toInt.tdiv y.toInt).natAbs ≤ x.toInt.natAbs := by rw [Int.natAbs_tdiv]; exact Nat.div_le_self _ _
      omega
  · by_cases hy : y.toInt = 0
    · rw [hy]; simp
    · have h1 : (x.toInt.tdiv y.toInt).natAbs = x.toInt.natAbs / y.toInt.natAbs := Int.natAbs_tdiv _ _
      have h2 : x.toInt.natAbs / y.toInt.natAbs ≤ x.toInt.natAbs := Nat.div_le_self _ _
      by_cases h3 : x.toInt = -2147483648
      · by_cases h4 : y.toInt.natAbs = 1
        · have h5 : y.toInt = 1 := by
            have : y.toInt ≠ -1 := fun q => h ⟨h3, q⟩
            omega
          rw [h5, h3]; decide
        · have h6 : x.toInt.natAbs / y.toInt.natAbs ≤ x.toInt.natAbs / 2 := Nat.div_le_div_left (by omega) (by decide)
          omega
      · omega
theorem irm_ti {x y : Int32} (h : 0 ≤ x.toInt) (hy : 0 < y.toInt) : (irm x y).toInt = x.toInt % y.toInt ∧ (x / y).toInt = x.toInt / y.toInt := by
  have hx2 := x.toInt_lt
  have hy2 := y.toInt_lt
  have e1 : (x / y).toInt = x.toInt / y.toInt := by
    rw [div_ti (by omega)]
    exact Int.tdiv_eq_ediv_of_nonneg h
  have q0 : 0 ≤ x.toInt / y.toInt := Int.ediv_nonneg h (by omega)
  have q1 := Int.mul_ediv_add_emod x.toInt y.toInt
  have q2 : 0 ≤ x.toInt % y.toInt := Int.emod_nonneg _ (by omega)
  have q3 : x.toInt % y.toInt < y.toInt := Int.emod_lt_of_pos _ hy
  have q4 : x.toInt / y.toInt * y.toInt = y.toInt * (x.toInt / y.toInt) := Int.mul_comm _ _
  have e2 : (x / y * y).toInt = x.toInt / y.toInt * y.toInt := by
    rw [mul_ti (by rw [e1, q4]; have := Int.mul_nonneg (show 0 ≤ y.toInt by omega) q0; omega) (by rw [e1]; omega), e1]
  refine ⟨?_, e1⟩
  show (x - x / y * y).toInt = _
  rw [sub_ti (by rw [e2]; omega) (by rw [e2]; omega), e2]
  omega
theorem tell_s {c m : SS} (hW : WOK c) (hR : WR c m) (p q : Int32) (hp : p.toInt ≤ 7 → True) : ∃ r, fX5_tellPerson c p q = some r ∧ fX7_toldOf m p q = some r ∧ (¬ (0 ≤ p.toInt ∧ p.toInt ≤ 7) → r = -2) := by
  unfold fX5_tellPerson fX7_toldOf
  rw [person_c, person_m hR]
  simp only [ite0]
  by_cases hp : 0 ≤ p.toInt ∧ p.toInt ≤ 7 ∧ bt (c.1 5) p.toInt.toNat = true
  · simp only [hp, and_self, not_true_eq_false, if_false]
    obtain ⟨k, k1, rfl, k3⟩ := nI_back hp.1
    have hk : k < 8 := by omega
    obtain ⟨g1, g2, g3, g4, g5, g6⟩ := hR.2.2.2.2.2.2.2.1 k hk
    simp only [ald_n hk (show 8 < 2 ^ 31 by decide), g1, g2, g3, g4, g5, g6]
    by_cases h0 : q = 0
    · simp only [h0, if_true]; exact ⟨_, rfl, rfl, fun z => False.elim z⟩
    · simp only [h0, if_false]
      by_cases h1 : q = 1
      · simp only [h1, if_true]; exact ⟨_, rfl, rfl, fun z => False.elim z⟩
      · simp only [h1, if_false]
        by_cases h2 : q = 2
        · simp only [h2, if_true]; exact ⟨_, rfl, rfl, fun z => False.elim z⟩
        · simp only [h2, if_false]
          by_cases h3 : q = 3
          · simp only [h3, if_true]; exact ⟨_, rfl, rfl, fun z => False.elim z⟩
          · simp only [h3, if_false]
            by_cases h4 : q = 4
            · simp only [h4, if_true]; exact ⟨_, rfl, rfl, fun z => False.elim z⟩
            · simp only [h4, if_false]
              by_cases h5 : q = 5
              · simp only [h5, if_true]; exact ⟨_, rfl, rfl, fun z => False.elim z⟩
              · simp only [h5, if_false]
                unfold swo
                have : q.toInt < (0 : Int32).toInt ∨ (5 : Int32).toInt < q.toInt := by
                  show q.toInt < 0 ∨ 5 < q.toInt
                  apply Classical.byContradiction
                  intro hn
                  have e0 : q.toInt ≠ 0 := fun z => h0 (nI_lit (k := 0) (by decide) z)
                  have e1 : q.toInt ≠ 1 := fun z => h1 (nI_lit (k := 1) (by decide) z)
                  have e2 : q.toInt ≠ 2 := fun z => h2 (nI_lit (k := 2) (by decide) z)
                  have e3 : q.toInt ≠ 3 := fun z => h3 (nI_lit (k := 3) (by decide) z)
                  have e4 : q.toInt ≠ 4 := fun z => h4 (nI_lit (k := 4) (by decide) z)
                  have e5 : q.toInt ≠ 5 := fun z => h5 (nI_lit (k := 5) (by decide) z)
                  omega
                rw [if_pos this]
                exact ⟨_, rfl, rfl, fun _ => rfl⟩
  · simp only [hp, not_false_eq_true, if_true]
    exact ⟨_, rfl, rfl, fun _ => rfl⟩
theorem ok_told : OK_told Inv := by
  intro c m i0 i1 a h
  have same := h
  obtain ⟨hW, hR, hP, -⟩ := h
  obtain ⟨w1, w2, w3, w4, w5, w6, w7, w8, w9⟩ := id hW
  obtain ⟨r1, r2, r3, r4, r5, r6, r7, r8, r9⟩ := id hR
  unfold fX6_told fX7_told
  rw [win, lin, lin]
  simp only [ite0]
  have ev : (c.1 1).toInt = (vn c : Int) := by rw [w1.1]; exact nI_ti (by omega)
  have e10 : (10 : Int32).toInt = 10 := rfl
  have e1 : ((9 : Int32) + c.1 1).toInt = 9 + (vn c : Int) := by
    rw [add_ti (by rw [ev]; show _ ≤ (9 : Int) + _; omega) (by rw [ev]; show (9 : Int) + _ < _; omega), ev]; rfl
  have e2 : ((9 : Int64) + (m.1 0).toInt64).toInt = 9 + (vn c : Int) := by
    rw [Int64.toInt_add, Int32.toInt_toInt64, r1, ev]
    show Int.bmod (9 + (vn c : Int)) _ = _
    exact Int.bmod_eq_of_le (by omega) (by omega)
  have f10 : (10 : Int64).toInt = 10 := rfl
  have f20 : (20 : Int64).toInt = 20 := rfl
  have f99 : (99 : Int64).toInt = 99 := rfl
  rw [e10, e1, e2, f10, f20, f99]
  by_cases hs : 0 ≤ a.toInt ∧ a.toInt ≤ 6
  · have n1 : ¬ (20 ≤ a.toInt ∧ a.toInt ≤ 99) := by omega
    have n2 : ¬ (10 ≤ a.toInt ∧ a.toInt ≤ 9 + (vn c : Int)) := by omega
    simp only [n1, n2, not_false_eq_true, if_true]
    have ha : a = 0 ∨ a = 1 ∨ a = 2 ∨ a = 3 ∨ a = 4 ∨ a = 5 ∨ a = 6 := by
      have : a.toInt = 0 ∨ a.toInt = 1 ∨ a.toInt = 2 ∨ a.toInt = 3 ∨ a.toInt = 4 ∨ a.toInt = 5 ∨ a.toInt = 6 := by omega
      rcases this with z | z | z | z | z | z | z
      · left; exact nI_lit (k := 0) (by decide) z
      · right; left; exact nI_lit (k := 1) (by decide) z
      · right; right; left; exact nI_lit (k := 2) (by decide) z
      · right; right; right; left; exact nI_lit (k := 3) (by decide) z
      · right; right; right; right; left; exact nI_lit (k := 4) (by decide) z
      · right; right; right; right; right; left; exact nI_lit (k := 5) (by decide) z
      · right; right; right; right; right; right; exact nI_lit (k := 6) (by decide) z
    rcases ha with rfl | rfl | rfl | rfl | rfl | rfl | rfl
    · exact ⟨_, rfl, by rw [if_pos rfl, hP.1], same⟩
    · exact ⟨_, rfl, by rw [if_neg (by decide), if_pos rfl, r1], same⟩
    · exact ⟨_, rfl, by rw [if_neg (by decide), if_neg (by decide), if_pos rfl, r2], same⟩
    · exact ⟨_, rfl, by rw [if_neg (by decide), if_neg (by decide), if_neg (by decide), if_pos rfl, r3], same⟩
    · exact ⟨_, rfl, by rw [if_neg (by decide), if_neg (by decide), if_neg (by decide), if_neg (by decide), if_pos rfl, r4], same⟩
    · exact ⟨_, rfl, by rw [if_neg (by decide), if_neg (by decide), if_neg (by decide), if_neg (by decide), if_neg (by decide), if_pos rfl, r5], same⟩
    · exact ⟨_, rfl, by rw [if_neg (by decide), if_neg (by decide), if_neg (by decide), if_neg (by decide), if_neg (by decide), if_neg (by decide), if_pos rfl, r6], same⟩
  · have d0 : ¬ a = 0 := fun z => hs (by rw [z]; decide)
    have d1 : ¬ a = 1 := fun z => hs (by rw [z]; decide)
    have d2 : ¬ a = 2 := fun z => hs (by rw [z]; decide)
    have d3 : ¬ a = 3 := fun z => hs (by rw [z]; decide)
    have d4 : ¬ a = 4 := fun z => hs (by rw [z]; decide)
    have d5 : ¬ a = 5 := fun z => hs (by rw [z]; decide)
    have d6 : ¬ a = 6 := fun z => hs (by rw [z]; decide)
    have sw : ∀ K : Option Int32, swo a 0 6 K = K := fun K => by
      unfold swo
      rw [if_pos (by show a.toInt < 0 ∨ 6 < a.toInt; omega)]
    simp only [d0, d1, d2, d3, d4, d5, d6, if_false, sw]
    by_cases h1 : 10 ≤ a.toInt ∧ a.toInt ≤ 9 + (vn c : Int)
    · have n1 : ¬ (20 ≤ a.toInt ∧ a.toInt ≤ 99) := by omega
      simp only [h1, n1, and_self, not_true_eq_false, not_false_eq_true, if_false, if_true]
      have e : (a - 10).toInt = a.toInt - 10 := sub_ti (by show _ ≤ _ - (10 : Int); omega) (by show _ - (10 : Int) < _; omega)
      obtain ⟨k, k1, k2, k3⟩ := nI_back (x := a - 10) (by rw [e]; omega)
      rw [k2, ald_n (by omega) (by decide), ald_n (by omega) (by decide), r7 k (by omega)]
      exact ⟨_, rfl, rfl, same⟩
    · simp only [h1, not_false_eq_true, if_true]
      by_cases h2 : 20 ≤ a.toInt
      · have g20 : (20 : Int32) ≤ a := i32_le.mpr h2
        obtain ⟨q1, q2⟩ := irm_ti (x := a) (y := 10) (by omega) (by decide)
        have ed : (a / 10 - 2).toInt = a.toInt / 10 - 2 := by
          have : (a / 10).toInt = a.toInt / 10 := q2
          have hb := a.toInt_lt
          rw [sub_ti (by rw [this]; show _ ≤ _ - (2 : Int); omega) (by rw [this]; show _ - (2 : Int) < _; omega), this]
          rfl
        obtain ⟨r, t1, t2, t3⟩ := tell_s hW hR (a / 10 - 2) (irm a 10) (fun _ => trivial)
        simp only [g20, if_true, t1, Option.bind_some]
        by_cases h3 : a.toInt ≤ 99
        · simp only [h2, h3, and_self, not_true_eq_false, if_false, t2, Option.bind_some]
          exact ⟨_, rfl, rfl, same⟩
        · simp only [h3, and_false, not_false_eq_true, if_true]
          exact ⟨_, rfl, by rw [t3 (by rw [ed]; omega)], same⟩
      · have g20 : ¬ (20 : Int32) ≤ a := fun z => h2 (i32_le.mp z)
        simp only [g20, h2, false_and, not_false_eq_true, if_false, if_true]
        exact ⟨_, rfl, rfl, same⟩
