theorem stop_c {c : SS} (hW : WOK c) (p : Int32) : fX5_isStop c p = if 0 ≤ p.toInt ∧ p.toInt < vn c then 1 else 0 := by
  obtain ⟨⟨n1, n2, n3⟩, -⟩ := hW
  unfold fX5_isStop
  rw [win]
  have e : (c.1 1 - 1).toInt = (vn c : Int) - 1 := by
    have : (c.1 1).toInt = (vn c : Int) := by rw [n1]; exact nI_ti (by omega)
    rw [sub_ti (by rw [this]; show _ ≤ _ - (1 : Int); omega) (by rw [this]; show _ - (1 : Int) < _; omega), this]
    rfl
  rw [e]
  have e0 : (0 : Int32).toInt = 0 := rfl
  rw [e0]
  by_cases h : 0 ≤ p.toInt ∧ p.toInt < vn c
  · rw [if_pos h, if_pos (by omega)]
  · rw [if_neg h, if_neg (by omega)]
theorem stop_m {c m : SS} (hW : WOK c) (hR : WR c m) (p : Int32) : fX7_isStop m p = if 0 ≤ p.toInt ∧ p.toInt < vn c then 1 else 0 := by
  obtain ⟨⟨n1, n2, n3⟩, -⟩ := hW
  unfold fX7_isStop
  rw [lin, hR.1]
  have e : (c.1 1 - 1).toInt64.toInt = (vn c : Int) - 1 := by
    have : (c.1 1).toInt = (vn c : Int) := by rw [n1]; exact nI_ti (by omega)
    rw [Int32.toInt_toInt64, sub_ti (by rw [this]; show _ ≤ _ - (1 : Int); omega) (by rw [this]; show _ - (1 : Int) < _; omega), this]
    rfl
  rw [e]
  have e0 : (0 : Int64).toInt = 0 := rfl
  rw [e0]
  by_cases h : 0 ≤ p.toInt ∧ p.toInt < vn c
  · rw [if_pos h, if_pos (by omega)]
  · rw [if_neg h, if_neg (by omega)]
theorem bt_not1 {s i : Nat} (hs : s < 32) (hi : i < 32) : bt (((1 : Int32) <<< (nI s &&& 31)) ^^^ -1) i = !decide (i = s) := by
  rw [b_xor, b_one hs hi, b_m1 i hi]; simp
theorem ok_close : OK_close Inv := by
  intro c m i0 i1 p z h _
  obtain ⟨hW, hR, hP, hi0, hi1⟩ := h
  unfold fX6_close fX7_close
  rw [stop_c hW, stop_m hW hR, hR.2.1]
  simp only [ite0]
  by_cases hp : 0 ≤ p.toInt ∧ p.toInt < vn c
  · simp only [hp, and_self, not_true_eq_false, if_false, jn_e]
    obtain ⟨⟨n1, n2, n3⟩, w2, wr⟩ := id hW
    obtain ⟨s, s1, rfl, s3⟩ := nI_back hp.1
    have hs : s < vn c := by omega
    have main : ∀ x : Int32, (∀ q, vn c ≤ q → bt x q = false) → Inv (sF c 2 x) (sF m 2 x) i0 i1 := by
      intro x hx
      refine ⟨⟨⟨n1, n2, n3⟩, hx, wr⟩, ⟨hR.1, rfl, hR.2.2⟩, hP, iR_cg hi0 rfl rfl, iR_cg hi1.1 rfl rfl, hi1.2⟩
    by_cases hz : z = 0
    · simp only [hz, if_true]
      refine ⟨_, _, _, rfl, rfl, main _ (fun q hq => ?_)⟩
      by_cases h32 : q < 32
      · rw [b_and, w2 q hq]; rfl
      · exact b_big (by omega)
    · simp only [hz, if_false]
      refine ⟨_, _, _, rfl, rfl, main _ (fun q hq => ?_)⟩
      by_cases h32 : q < 32
      · rw [b_or, w2 q hq, b_one (by omega) h32]
        simp; omega
      · exact b_big (by omega)
  · simp only [hp, not_false_eq_true, if_true]
    exact ⟨_, _, _, rfl, rfl, hW, hR, hP, hi0, hi1⟩
/-- how many bits, by both -/
theorem ones_add : ∀ (n : Nat) (a x r : Int32), fX7_ones_L4 n a x = some r → ∀ d, fX7_ones_L4 (n + d) a x = some r := by
  intro n
  induction n with
  | zero => intro a x r h; exact absurd h (by simp [fX7_ones_L4])
  | succ n ih =>
    intro a x r h d
    rw [show n + 1 + d = (n + d) + 1 by omega, fX7_ones_L4]
    rw [fX7_ones_L4] at h
    by_cases hx : x = 0
    · rw [if_pos hx] at h ⊢; exact h
    · rw [if_neg hx] at h ⊢; exact ih _ _ _ h d
theorem ones_256 : ∀ k : Fin 256, fX7_ones_L4 9 0 (nI k.val) = some (fJ6_bitCount_0f7a4 (nI k.val)) := by decide +kernel
theorem ones_bc {x : Int32} (hx : ∃ k, k < 256 ∧ x = nI k) : fX7_ones x = some (fJ6_bitCount_0f7a4 x) := by
  obtain ⟨k, hk, rfl⟩ := hx
  unfold fX7_ones
  rw [show fu = 9 + (fu - 9) from rfl]
  exact ones_add 9 0 _ _ (ones_256 ⟨k, hk⟩) _
theorem small_of_bits {x : Int32} {n : Nat} (hn : n ≤ 31) (h : ∀ i, n ≤ i → bt x i = false) : ∃ k, k < 2 ^ n ∧ x = nI k := by
  refine ⟨x.toBitVec.toNat, ?_, Int32.toBitVec_inj.mp (by show _ = BitVec.ofNat 32 _; simp)⟩
  apply Nat.lt_pow_two_of_testBit
  intro i hi
  exact h i hi
theorem bits_of_small {k n : Nat} (hk : k < 2 ^ n) (hn : n ≤ 31) {i : Nat} (hi : n ≤ i) : bt (nI k) i = false := by
  by_cases h32 : i < 32
  · show (BitVec.ofNat 32 k).getLsbD i = false
    rw [BitVec.getLsbD_ofNat]
    have : k.testBit i = false := Nat.testBit_lt_two_pow (Nat.lt_of_lt_of_le hk (Nat.pow_le_pow_right (by decide) hi))
    rw [this]; simp
  · exact b_big (by omega)
theorem person_c {c : SS} (p : Int32) : fX5_isPerson c p = if 0 ≤ p.toInt ∧ p.toInt ≤ 7 ∧ bt (c.1 5) p.toInt.toNat = true then 1 else 0 := by
  unfold fX5_isPerson
  rw [win]
  simp only [ite0]
  have e0 : (0 : Int32).toInt = 0 := rfl
  have e7 : (7 : Int32).toInt = 7 := rfl
  rw [e0, e7]
  by_cases h : 0 ≤ p.toInt ∧ p.toInt ≤ 7
  · obtain ⟨k, k1, rfl, k3⟩ := nI_back h.1
    have ek : (nI k).toInt.toNat = k := by omega
    simp only [h, and_self, not_true_eq_false, if_false, true_and, ek, tb1 (c.1 5) (show k < 32 by omega)]
  · rw [if_pos h, if_neg (fun q => h ⟨q.1, q.2.1⟩)]
theorem person_m {c m : SS} (hR : WR c m) (p : Int32) : fX7_isThere m p = if 0 ≤ p.toInt ∧ p.toInt ≤ 7 ∧ bt (c.1 5) p.toInt.toNat = true then 1 else 0 := by
  unfold fX7_isThere
  rw [lin, hR.2.2.1]
  simp only [ite0]
  have e0 : (0 : Int64).toInt = 0 := rfl
  have e7 : (7 : Int64).toInt = 7 := rfl
  rw [e0, e7]
  by_cases h : 0 ≤ p.toInt ∧ p.toInt ≤ 7
  · obtain ⟨k, k1, rfl, k3⟩ := nI_back h.1
    have ek : (nI k).toInt.toNat = k := by omega
    simp only [h, and_self, not_true_eq_false, if_false, true_and, ek, tb1 (c.1 5) (show k < 32 by omega)]
  · rw [if_pos h, if_neg (fun q => h ⟨q.1, q.2.1⟩)]
theorem ok_leave : OK_leave Inv := by
  intro c m i0 i1 p h
  obtain ⟨hW, hR, hP, hi0, hi1⟩ := h
  unfold fX6_leave fX7_leave
  rw [person_c, person_m hR, hR.2.2.1]
  simp only [ite0]
  by_cases hp : 0 ≤ p.toInt ∧ p.toInt ≤ 7 ∧ bt (c.1 5) p.toInt.toNat = true
  · simp only [hp, and_self, not_true_eq_false, if_false]
    obtain ⟨w1, w2, w3, w4, w5, w6, w7, w8, w9⟩ := id hW
    obtain ⟨s, s1, rfl, s3⟩ := nI_back hp.1
    have hb : ∀ q, 8 ≤ q → bt (c.1 5 &&& (((1 : Int32) <<< (nI s &&& 31)) ^^^ -1)) q = false := fun q hq => by rw [b_and, w5 q hq]; rfl
    rw [ones_bc (small_of_bits (n := 8) (by omega) hb)]
    refine ⟨_, _, _, rfl, rfl, ⟨w1, w2, w3, w4, hb, w6, w7, w8, fun q hq => ?_⟩, ⟨hR.1, hR.2.1, rfl, hR.2.2.2⟩, hP, iR_cg hi0 rfl rfl, iR_cg hi1.1 rfl rfl, hi1.2⟩
    obtain ⟨⟨g1, g2, g3⟩, g4⟩ := w9 q hq
    refine ⟨⟨g1, g2, fun z => g3 ?_⟩, g4⟩
    have z2 : bt (c.1 5 &&& (((1 : Int32) <<< (nI s &&& 31)) ^^^ -1)) q = true := z
    rw [b_and] at z2
    simp at z2
    exact z2.1
  · simp only [hp, not_false_eq_true, if_true]
    exact ⟨_, _, _, rfl, rfl, hW, hR, hP, hi0, hi1⟩
theorem ok_set : OK_set Inv := by
  intro c m i0 i1 a v h
  obtain ⟨hW, hR, hP, hi0, hi1⟩ := h
  unfold fX6_set fX7_set
  rw [win, win, lin, lin]
  simp only [ite0, jn_e]
  have e0 : (0 : Int32).toInt = 0 := rfl
  have e1 : (1 : Int32).toInt = 1 := rfl
  have e9 : (9 : Int32).toInt = 9 := rfl
  have f0 : (0 : Int64).toInt = 0 := rfl
  have f1 : (1 : Int64).toInt = 1 := rfl
  have f9 : (9 : Int64).toInt = 9 := rfl
  rw [e0, e1, e9, f0, f1, f9]
  obtain ⟨w1, w2, w3, w4, wr⟩ := id hW
  obtain ⟨r1, r2, r3, r4, r5, rr⟩ := id hR
  by_cases ha : 0 ≤ a.toInt ∧ a.toInt ≤ 1
  · by_cases hv : 0 ≤ v.toInt ∧ v.toInt ≤ 9
    · obtain ⟨d, d1, rfl, d3⟩ := nI_back hv.1
      have hd : (nI d).toNatClampNeg = d := nI_clamp d3
      simp only [ha, hv, and_self, not_true_eq_false, if_false]
      have ha2 : a = 0 ∨ a = 1 := by
        have : a.toInt = 0 ∨ a.toInt = 1 := by omega
        rcases this with q | q
        · left; exact Int32.toInt_inj.mp (by rw [q, e0])
        · right; exact Int32.toInt_inj.mp (by rw [q, e1])
      rcases ha2 with rfl | rfl
      · simp only [if_true, show ¬ (0 : Int32) = 1 by decide, if_false, r4]
        refine ⟨_, _, _, rfl, rfl, ⟨w1, w2, ⟨?_, ?_⟩, w4, wr⟩, ⟨r1, r2, r3, rfl, r5, rr⟩, hP, iR_cg hi0 rfl rfl, iR_cg hi1.1 rfl rfl, hi1.2⟩
        · show nI d = nI (nI d).toNatClampNeg; rw [hd]
        · show (nI d).toNatClampNeg ≤ 9; rw [hd]; omega
      · simp only [if_true, show ¬ (1 : Int32) = 0 by decide, if_false, r5]
        refine ⟨_, _, _, rfl, rfl, ⟨w1, w2, w3, ⟨?_, ?_⟩, wr⟩, ⟨r1, r2, r3, r4, rfl, rr⟩, hP, iR_cg hi0 rfl rfl, iR_cg hi1.1 rfl rfl, hi1.2⟩
        · show nI d = nI (nI d).toNatClampNeg; rw [hd]
        · show (nI d).toNatClampNeg ≤ 9; rw [hd]; omega
    · simp only [ha, hv, and_self, not_true_eq_false, not_false_eq_true, if_false, if_true]
      exact ⟨_, _, _, rfl, rfl, hW, hR, hP, hi0, hi1⟩
  · simp only [ha, not_false_eq_true, if_true]
    exact ⟨_, _, _, rfl, rfl, hW, hR, hP, hi0, hi1⟩
theorem ok_nights : OK_nights Inv := by
  intro c m i0 i1 p v h
  obtain ⟨hW, hR, hP, hi0, hi1⟩ := h
  unfold fX6_nights fX7_nights
  rw [person_c, person_m hR, win, lin]
  simp only [ite0]
  have e0 : (0 : Int32).toInt = 0 := rfl
  have e9 : (127 : Int32).toInt = 127 := rfl
  have f0 : (0 : Int64).toInt = 0 := rfl
  have f9 : (127 : Int64).toInt = 127 := rfl
  rw [e0, e9, f0, f9]
  by_cases hp : 0 ≤ p.toInt ∧ p.toInt ≤ 7 ∧ bt (c.1 5) p.toInt.toNat = true
  · by_cases hv : 0 ≤ v.toInt ∧ v.toInt ≤ 127
    · simp only [hp, hv, and_self, not_true_eq_false, if_false]
      obtain ⟨s, s1, rfl, s3⟩ := nI_back hp.1
      rw [ckb_n (by omega) (by decide), ckb_n (by omega) (by decide), nI_clamp s3]
      obtain ⟨d, d1, rfl, d3⟩ := nI_back hv.1
      obtain ⟨w1, w2, w3, w4, w5, w6, w7, w8, w9⟩ := id hW
      obtain ⟨r1, r2, r3, r4, r5, r6, r7, r8, r9⟩ := id hR
      refine ⟨_, _, _, rfl, rfl, ⟨w1, w2, w3, w4, w5, w6, w7, w8, fun q hq => ?_⟩, ⟨r1, r2, r3, r4, r5, r6, r7, fun q hq => ?_, r9⟩, hP, iR_cg hi0 rfl rfl, iR_cg hi1.1 rfl rfl, hi1.2⟩
      · obtain ⟨g1, g2, g3, g4⟩ := w9 q hq
        refine ⟨g1, g2, g3, ?_⟩
        show ∃ k, k < 128 ∧ upd (c.2 7) s (nI d) q = nI k
        rw [upd_e]
        by_cases hqs : q = s
        · rw [if_pos hqs]; exact ⟨d, by omega, rfl⟩
        · rw [if_neg hqs]; exact g4
      · obtain ⟨g1, g2, g3, g4, g5, g6⟩ := r8 q hq
        refine ⟨g1, g2, g3, g4, g5, ?_⟩
        show upd (m.2 9) s (nI d) q = upd (c.2 7) s (nI d) q
        rw [upd_e, upd_e, g6]
    · simp only [hp, hv, and_self, not_true_eq_false, not_false_eq_true, if_false, if_true]
      exact ⟨_, _, _, rfl, rfl, hW, hR, hP, hi0, hi1⟩
  · simp only [hp, not_false_eq_true, if_true]
    exact ⟨_, _, _, rfl, rfl, hW, hR, hP, hi0, hi1⟩
