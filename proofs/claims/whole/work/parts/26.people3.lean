theorem good_c (v : Int32) : fX6_isGood v = if -9 ≤ v.toInt ∧ v.toInt ≤ 9 then 1 else 0 := by
  unfold fX6_isGood
  rw [win]; rfl
theorem good_m (v : Int32) : fX7_isGood v = if -9 ≤ v.toInt ∧ v.toInt ≤ 9 then 1 else 0 := by
  unfold fX7_isGood
  rw [lin]; rfl
theorem ok_person : OK_person Inv := by
  intro c m i0 i1 p s co ri wa ot h
  obtain ⟨hW, hR, hP, hi0, hi1⟩ := h
  unfold fX6_person fX7_person
  rw [win, win, lin, lin, stop_c hW, stop_m hW hR, good_c, good_c, good_c, good_m, good_m, good_m]
  simp only [ite0]
  have e0 : (0 : Int32).toInt = 0 := rfl
  have e7 : (7 : Int32).toInt = 7 := rfl
  have e9 : (99 : Int32).toInt = 99 := rfl
  have f0 : (0 : Int64).toInt = 0 := rfl
  have f7 : (7 : Int64).toInt = 7 := rfl
  have f9 : (99 : Int64).toInt = 99 := rfl
  rw [e0, e7, e9, f0, f7, f9]
  have same : Inv c m i0 i1 := ⟨hW, hR, hP, hi0, hi1⟩
  by_cases h1 : 0 ≤ p.toInt ∧ p.toInt ≤ 7
  · by_cases h2 : 0 ≤ s.toInt ∧ s.toInt < vn c
    · by_cases h3 : 0 ≤ co.toInt ∧ co.toInt ≤ 99
      · by_cases h4 : -9 ≤ ri.toInt ∧ ri.toInt ≤ 9
        · by_cases h5 : -9 ≤ wa.toInt ∧ wa.toInt ≤ 9
          · by_cases h6 : -9 ≤ ot.toInt ∧ ot.toInt ≤ 9
            · simp only [h1, h2, h3, h4, h5, h6, and_self, not_true_eq_false, if_false]
              obtain ⟨w1, w2, w3, w4, w5, w6, w7, w8, w9⟩ := id hW
              obtain ⟨r1, r2, r3, r4, r5, r6, r7, r8, r9⟩ := id hR
              obtain ⟨k, k1, rfl, k3⟩ := nI_back h1.1
              obtain ⟨a, a1, rfl, a3⟩ := nI_back h2.1
              obtain ⟨d, d1, rfl, d3⟩ := nI_back h3.1
              have hk : k < 8 := by omega
              simp only [ckb_n hk (show 8 < 2 ^ 31 by decide), nI_clamp k3]
              have hb : ∀ q, 8 ≤ q → bt (c.1 5 ||| ((1 : Int32) <<< (nI k &&& 31))) q = false := fun q hq => by
                by_cases h32 : q < 32
                · rw [b_or, w5 q hq, b_one (by omega) h32]; simp; omega
                · exact b_big (by omega)
              rw [r3, ones_bc (small_of_bits (n := 8) (by omega) hb)]
              refine ⟨_, _, _, rfl, rfl, ⟨w1, w2, w3, w4, hb, w6, w7, w8, fun q hq => ?_⟩, ⟨r1, r2, rfl, r4, r5, r6, r7, fun q hq => ?_, r9.1, fun q hq => ⟨(r9.2 q hq).1, (r9.2 q hq).2.1, fun z => ?_⟩⟩, hP, iR_cg hi0 rfl rfl, iR_cg hi1.1 rfl rfl, hi1.2⟩
              · obtain ⟨⟨g1, g2, g3⟩, ⟨g4, g5⟩, ⟨g6, g7, g8⟩, g9⟩ := w9 q hq
                show (upd (c.2 2) k (nI a) q = nI (upd (c.2 2) k (nI a) q).toNatClampNeg ∧ (upd (c.2 2) k (nI a) q).toNatClampNeg < 6 ∧ (bt (c.1 5 ||| ((1 : Int32) <<< (nI k &&& 31))) q = true → (upd (c.2 2) k (nI a) q).toNatClampNeg < vn c)) ∧ (upd (c.2 3) k (nI d) q = nI (upd (c.2 3) k (nI d) q).toNatClampNeg ∧ (upd (c.2 3) k (nI d) q).toNatClampNeg ≤ 99) ∧ (gd9 (upd (c.2 4) k ri q) ∧ gd9 (upd (c.2 5) k wa q) ∧ gd9 (upd (c.2 6) k ot q)) ∧ ∃ z, z < 128 ∧ upd (c.2 7) k 127 q = nI z
                simp only [upd_e]
                by_cases hqk : q = k
                · simp only [hqk, if_true, nI_clamp a3, nI_clamp d3]
                  exact ⟨⟨trivial, by omega, fun _ => by omega⟩, ⟨trivial, by omega⟩, ⟨h4, h5, h6⟩, 127, by omega, rfl⟩
                · simp only [hqk, if_false]
                  refine ⟨⟨g1, g2, fun z => g3 ?_⟩, ⟨g4, g5⟩, ⟨g6, g7, g8⟩, g9⟩
                  rw [b_or, b_one (by omega) (by omega)] at z
                  simp [hqk] at z
                  exact z
              · obtain ⟨g1, g2, g3, g4, g5, g6⟩ := r8 q hq
                show upd (m.2 4) k (nI a) q = upd (c.2 2) k (nI a) q ∧ upd (m.2 5) k (nI d) q = upd (c.2 3) k (nI d) q ∧ upd (m.2 6) k ri q = upd (c.2 4) k ri q ∧ upd (m.2 7) k wa q = upd (c.2 5) k wa q ∧ upd (m.2 8) k ot q = upd (c.2 6) k ot q ∧ upd (m.2 9) k 127 q = upd (c.2 7) k 127 q
                simp only [upd_e, g1, g2, g3, g4, g5, g6, and_self]
              · show (upd (c.2 2) k (nI a) q).toNatClampNeg < vn c
                rw [upd_e]
                by_cases hqk : q = k
                · rw [if_pos hqk, nI_clamp a3]; omega
                · rw [if_neg hqk]; exact (r9.2 q hq).2.2 z
            · simp only [h1, h2, h3, h4, h5, h6, and_self, not_true_eq_false, not_false_eq_true, if_false, if_true]
              exact ⟨_, _, _, rfl, rfl, same⟩
          · simp only [h1, h2, h3, h4, h5, and_self, not_true_eq_false, not_false_eq_true, if_false, if_true]
            exact ⟨_, _, _, rfl, rfl, same⟩
        · simp only [h1, h2, h3, h4, and_self, not_true_eq_false, not_false_eq_true, if_false, if_true]
          exact ⟨_, _, _, rfl, rfl, same⟩
      · simp only [h1, h2, h3, and_self, not_true_eq_false, not_false_eq_true, if_false, if_true]
        exact ⟨_, _, _, rfl, rfl, same⟩
    · simp only [h1, h2, and_self, not_true_eq_false, not_false_eq_true, if_false, if_true]
      exact ⟨_, _, _, rfl, rfl, same⟩
  · simp only [h1, not_false_eq_true, if_true]
    exact ⟨_, _, _, rfl, rfl, same⟩
theorem ok_forget : OK_forget Inv := by
  intro c m i0 i1 h
  obtain ⟨hW, hR, hP, hi0, hi1⟩ := h
  obtain ⟨w1, w2, w3, w4, w5, w6, w7, w8, w9⟩ := id hW
  obtain ⟨r1, r2, r3, r4, r5, r6, r7, r8, r9⟩ := id hR
  unfold fX6_forget fX7_forget
  rw [r6]
  refine ⟨_, _, _, rfl, rfl, ⟨w1, w2, w3, w4, w5, ⟨rfl, Nat.zero_le _⟩, fun p _ => ⟨b_0 p, b_0 p⟩, w8, w9⟩, ⟨r1, r2, r3, r4, r5, rfl, r7, r8, ⟨fun k hk => absurd hk (Nat.not_lt_zero k), fun p hp => ⟨⟨fun q => ?_, fun ⟨k, hk, _⟩ => absurd hk (Nat.not_lt_zero k)⟩, ⟨fun q => ?_, fun ⟨k, hk, _⟩ => absurd hk (Nat.not_lt_zero k)⟩, fun q => absurd q (by show ¬ bt 0 p = true; rw [b_0]; decide)⟩⟩⟩, hP, iR_cg hi0 rfl rfl, iR_cg hi1.1 rfl rfl, hi1.2⟩
  · exact absurd q (by show ¬ bt 0 p = true; rw [b_0]; decide)
  · exact absurd q (by show ¬ bt 0 p = true; rw [b_0]; decide)
theorem ok_seen : OK_seen Inv := by
  intro c m i0 i1 p v h
  obtain ⟨hW, hR, hP, hi0, hi1⟩ := h
  unfold fX6_seen fX7_seen
  rw [person_c, person_m hR, win, lin]
  simp only [ite0, jn_e]
  have e0 : (0 : Int32).toInt = 0 := rfl
  have e1 : (1 : Int32).toInt = 1 := rfl
  have f0 : (0 : Int64).toInt = 0 := rfl
  have f1 : (1 : Int64).toInt = 1 := rfl
  rw [e0, e1, f0, f1]
  have same : Inv c m i0 i1 := ⟨hW, hR, hP, hi0, hi1⟩
  obtain ⟨w1, w2, w3, w4, w5, ⟨w6, w6'⟩, w7, w8, w9⟩ := id hW
  obtain ⟨r1, r2, r3, r4, r5, r6, r7, r8, ⟨r9, r10⟩⟩ := id hR
  by_cases hp : 0 ≤ p.toInt ∧ p.toInt ≤ 7 ∧ bt (c.1 5) p.toInt.toNat = true
  · by_cases hv : 0 ≤ v.toInt ∧ v.toInt ≤ 1
    · simp only [hp, hv, and_self, not_true_eq_false, if_false]
      by_cases hS : vS c < 8
      · have n1 : c.1 6 < 8 := by rw [w6]; exact nI_lt (b := 8) hS (by decide)
        have n2 : ¬ m.1 14 = 8 := fun q => by rw [r6, w6] at q; have := (nI_eq (a := vS c) (b := 8) (by omega) (by decide)).mp q; omega
        simp only [n1, n2, if_true, if_false]
        obtain ⟨k, k1, rfl, k3⟩ := nI_back hp.1
        have hk : k < 8 := by omega
        have ec : (c.1 6).toNatClampNeg = vS c := rfl
        rw [r6, ec, w6, ckb_n hS (by decide), ckb_n hS (by decide), inc_n]
        have hv2 : v = 0 ∨ v = 1 := by
          have : v.toInt = 0 ∨ v.toInt = 1 := by omega
          rcases this with q | q
          · left; exact Int32.toInt_inj.mp (by rw [q, e0])
          · right; exact Int32.toInt_inj.mp (by rw [q, e1])
        have bitk : ∀ (x : Int32) q, q < 8 → (bt (x ||| ((1 : Int32) <<< (nI k &&& 31))) q = true ↔ (bt x q = true ∨ q = k)) := by
          intro x q hq
          rw [b_or, b_one (by omega) (by omega)]
          simp
        have bitb : ∀ (x : Int32) q, 8 ≤ q → bt x q = false → bt (x ||| ((1 : Int32) <<< (nI k &&& 31))) q = false := by
          intro x q hq hx
          by_cases h32 : q < 32
          · rw [b_or, hx, b_one (by omega) h32]; simp; omega
          · exact b_big (by omega)
        have hvS : (nI (vS c + 1)).toNatClampNeg = vS c + 1 := nI_clamp (by omega)
        rcases hv2 with rfl | rfl
        · simp only [show ¬ (0 : Int32) = 1 by decide, if_false]
          have e : fX5_addSight c (nI k) 0 = sF (sF c 6 (nI (vS c + 1))) 8 (c.1 8 ||| ((1 : Int32) <<< (nI k &&& 31))) := by
            unfold fX5_addSight
            rw [if_pos rfl, w6, inc_n]
          rw [e]
          refine ⟨_, _, _, rfl, rfl, ⟨w1, w2, w3, w4, w5, ⟨?_, ?_⟩, fun q hq => ⟨(w7 q hq).1, bitb _ q hq (w7 q hq).2⟩, w8, w9⟩, ⟨r1, r2, r3, r4, r5, rfl, r7, r8, ⟨fun j hj => ?_, fun q hq => ⟨?_, ?_, fun z => ?_⟩⟩⟩, hP, iR_cg hi0 rfl rfl, iR_cg hi1.1 rfl rfl, hi1.2⟩
          · show nI (vS c + 1) = nI (nI (vS c + 1)).toNatClampNeg; rw [hvS]
          · show (nI (vS c + 1)).toNatClampNeg ≤ 8; rw [hvS]; omega
          · have hj2 : j < vS c + 1 := by rw [← hvS]; exact hj
            show ∃ q, q < 8 ∧ upd (m.2 12) (vS c) (nI k) j = nI q ∧ (upd (m.2 13) (vS c) 0 j = 0 ∨ upd (m.2 13) (vS c) 0 j = 1)
            simp only [upd_e]
            by_cases hjs : j = vS c
            · simp only [hjs, if_true]; exact ⟨k, hk, rfl, by simp⟩
            · simp only [hjs, if_false]; exact r9 j (by omega)
          · show bt (c.1 7) q = true ↔ ∃ j, j < (nI (vS c + 1)).toNatClampNeg ∧ upd (m.2 12) (vS c) (nI k) j = nI q ∧ upd (m.2 13) (vS c) 0 j = 1
            rw [(r10 q hq).1, hvS]
            constructor
            · rintro ⟨j, j1, j2, j3⟩
              refine ⟨j, by omega, ?_, ?_⟩
              · rw [upd_e, if_neg (by omega)]; exact j2
              · rw [upd_e, if_neg (by omega)]; exact j3
            · rintro ⟨j, j1, j2, j3⟩
              rw [upd_e] at j2 j3
              by_cases hjs : j = vS c
              · rw [if_pos hjs] at j3; exact absurd j3 (by decide)
              · rw [if_neg hjs] at j2 j3; exact ⟨j, by omega, j2, j3⟩
          · show bt (c.1 8 ||| ((1 : Int32) <<< (nI k &&& 31))) q = true ↔ ∃ j, j < (nI (vS c + 1)).toNatClampNeg ∧ upd (m.2 12) (vS c) (nI k) j = nI q ∧ upd (m.2 13) (vS c) 0 j = 0
            rw [bitk _ q hq, (r10 q hq).2.1, hvS]
            constructor
            · rintro (⟨j, j1, j2, j3⟩ | rfl)
              · refine ⟨j, by omega, ?_, ?_⟩
                · rw [upd_e, if_neg (by omega)]; exact j2
                · rw [upd_e, if_neg (by omega)]; exact j3
              · refine ⟨vS c, by omega, ?_, ?_⟩
                · rw [upd_e, if_pos rfl]
                · rw [upd_e, if_pos rfl]
            · rintro ⟨j, j1, j2, j3⟩
              rw [upd_e] at j2 j3
              by_cases hjs : j = vS c
              · rw [if_pos hjs] at j2
                right; exact ((nI_eq (by omega) (by omega)).mp j2).symm
              · rw [if_neg hjs] at j2 j3; left; exact ⟨j, by omega, j2, j3⟩
          · exact (r10 q hq).2.2 z
        · simp only [if_true]
          have e : fX5_addSight c (nI k) 1 = sF (sF c 6 (nI (vS c + 1))) 7 (c.1 7 ||| ((1 : Int32) <<< (nI k &&& 31))) := by
            unfold fX5_addSight
            rw [if_neg (by decide), w6, inc_n]
          rw [e]
          refine ⟨_, _, _, rfl, rfl, ⟨w1, w2, w3, w4, w5, ⟨?_, ?_⟩, fun q hq => ⟨bitb _ q hq (w7 q hq).1, (w7 q hq).2⟩, w8, w9⟩, ⟨r1, r2, r3, r4, r5, rfl, r7, r8, ⟨fun j hj => ?_, fun q hq => ⟨?_, ?_, fun z => ?_⟩⟩⟩, hP, iR_cg hi0 rfl rfl, iR_cg hi1.1 rfl rfl, hi1.2⟩
          · show nI (vS c + 1) = nI (nI (vS c + 1)).toNatClampNeg; rw [hvS]
          · show (nI (vS c + 1)).toNatClampNeg ≤ 8; rw [hvS]; omega
          · have hj2 : j < vS c + 1 := by rw [← hvS]; exact hj
            show ∃ q, q < 8 ∧ upd (m.2 12) (vS c) (nI k) j = nI q ∧ (upd (m.2 13) (vS c) 1 j = 0 ∨ upd (m.2 13) (vS c) 1 j = 1)
            simp only [upd_e]
            by_cases hjs : j = vS c
            · simp only [hjs, if_true]; exact ⟨k, hk, rfl, by simp⟩
            · simp only [hjs, if_false]; exact r9 j (by omega)
          · show bt (c.1 7 ||| ((1 : Int32) <<< (nI k &&& 31))) q = true ↔ ∃ j, j < (nI (vS c + 1)).toNatClampNeg ∧ upd (m.2 12) (vS c) (nI k) j = nI q ∧ upd (m.2 13) (vS c) 1 j = 1
            rw [bitk _ q hq, (r10 q hq).1, hvS]
            constructor
            · rintro (⟨j, j1, j2, j3⟩ | rfl)
              · refine ⟨j, by omega, ?_, ?_⟩
                · rw [upd_e, if_neg (by omega)]; exact j2
                · rw [upd_e, if_neg (by omega)]; exact j3
              · refine ⟨vS c, by omega, ?_, ?_⟩
                · rw [upd_e, if_pos rfl]
                · rw [upd_e, if_pos rfl]
            · rintro ⟨j, j1, j2, j3⟩
              rw [upd_e] at j2 j3
              by_cases hjs : j = vS c
              · rw [if_pos hjs] at j2
                right; exact ((nI_eq (by omega) (by omega)).mp j2).symm
              · rw [if_neg hjs] at j2 j3; left; exact ⟨j, by omega, j2, j3⟩
          · show bt (c.1 8) q = true ↔ ∃ j, j < (nI (vS c + 1)).toNatClampNeg ∧ upd (m.2 12) (vS c) (nI k) j = nI q ∧ upd (m.2 13) (vS c) 1 j = 0
            rw [(r10 q hq).2.1, hvS]
            constructor
            · rintro ⟨j, j1, j2, j3⟩
              refine ⟨j, by omega, ?_, ?_⟩
              · rw [upd_e, if_neg (by omega)]; exact j2
              · rw [upd_e, if_neg (by omega)]; exact j3
            · rintro ⟨j, j1, j2, j3⟩
              rw [upd_e] at j2 j3
              by_cases hjs : j = vS c
              · rw [if_pos hjs] at j3; exact absurd j3 (by decide)
              · rw [if_neg hjs] at j2 j3; exact ⟨j, by omega, j2, j3⟩
          · show va c q < vn c
            rcases (bitk _ q hq).mp z with z | z
            · exact (r10 q hq).2.2 z
            · subst z
              have hb := hp.2.2
              rw [nI_ti (by omega)] at hb
              exact (w9 q hq).1.2.2 hb
      · have hS8 : vS c = 8 := by omega
        have ec : c.1 6 = 8 := by rw [w6, hS8]; rfl
        rw [r6, ec]
        simp only [show ¬ (8 : Int32) < 8 by decide, if_false, if_true]
        exact ⟨_, _, _, rfl, rfl, same⟩
    · simp only [hp, hv, and_self, not_true_eq_false, not_false_eq_true, if_false, if_true]
      exact ⟨_, _, _, rfl, rfl, same⟩
  · simp only [hp, not_false_eq_true, if_true]
    exact ⟨_, _, _, rfl, rfl, same⟩
