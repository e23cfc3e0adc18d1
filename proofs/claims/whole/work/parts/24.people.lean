theorem line_c {c m : SS} (hP : PR c m) (hk : vK c ≤ 6) (k : SS → Option SS) : fX5_startLine_1_L19 k fu (nI 0) (sF c 1 (nI (vK c))) = k (lp (vK c) (fun i s => sA s 1 (0 + i) (c.2 0 i - 48)) (sF c 1 (nI (vK c)))) := by
  have p2 := hP.2.1.1
  refine (for_up (fun n i s => fX5_startLine_1_L19 k n (nI i) s) (vK c) (fun i s => sA s 1 (0 + i) (c.2 0 i - 48)) k (fun _ s => s.1 = (sF c 1 (nI (vK c))).1 ∧ s.2 0 = c.2 0) ?_ ?_ ?_ fu _ (fu_big (by omega)) ⟨rfl, rfl⟩).1
  · intro n i s hi ⟨h1, h2⟩
    show fX5_startLine_1_L19 k (n + 1) (nI i) s = fX5_startLine_1_L19 k n (nI (i + 1)) _
    have e1 : s.1 1 = nI (vK c) := by rw [h1]; rfl
    have e0 : s.1 0 = nI (vK c) := by rw [h1]; exact p2
    have ed : fX1_digit s (nI i) = some (c.2 0 i - 48) := by
      unfold fX1_digit
      rw [if_neg (nI_pos (by omega)), if_neg (by rw [e0]; exact nI_ge hi (by omega)), ald_n (by omega) (by decide), h2]
    rw [fX5_startLine_1_L19, if_neg (by rw [e1]; exact nI_ge hi (by omega)), ed]
    simp only [Option.bind_some]
    rw [ckb_n (by omega) (by decide), inc_n, nI_clamp (by omega), Nat.zero_add]
  · intro n s ⟨h1, h2⟩
    show fX5_startLine_1_L19 k (n + 1) (nI (vK c)) s = k s
    have e1 : s.1 1 = nI (vK c) := by rw [h1]; rfl
    rw [fX5_startLine_1_L19, if_pos (by rw [e1]; exact Int32.le_refl _)]
  · intro i s hi ⟨h1, h2⟩
    exact ⟨by rw [sA_1]; exact h1, by rw [sA_2, if_neg (by omega)]; exact h2⟩
theorem line_m {c m : SS} (hP : PR c m) (hk : vK c ≤ 6) (k : SS → Option (Int32 × SS)) : fX7_line_L23 k fu (nI 0) (sF m 0 (nI (vK c))) = k (lp (vK c) (fun i s => sA s 1 (0 + i) (c.2 0 i - 48)) (sF m 0 (nI (vK c)))) := by
  obtain ⟨p1, ⟨p2, p3⟩, p4⟩ := hP
  refine (for_up (fun n i s => fX7_line_L23 k n (nI i) s) (vK c) (fun i s => sA s 1 (0 + i) (c.2 0 i - 48)) k (fun _ s => s.1 = (sF m 0 (nI (vK c))).1 ∧ s.2 15 = m.2 15) ?_ ?_ ?_ fu _ (fu_big (by omega)) ⟨rfl, rfl⟩).1
  · intro n i s hi ⟨h1, h2⟩
    show fX7_line_L23 k (n + 1) (nI i) s = fX7_line_L23 k n (nI (i + 1)) _
    have e1 : s.1 0 = nI (vK c) := by rw [h1]; rfl
    rw [fX7_line_L23, if_neg (by rw [e1]; exact nI_ge hi (by omega)), ald_n (by omega) (by decide), h2, (p4 i (by omega)).1, ckb_n (by omega) (by decide), inc_n, nI_clamp (by omega), Nat.zero_add]
  · intro n s ⟨h1, h2⟩
    show fX7_line_L23 k (n + 1) (nI (vK c)) s = k s
    have e1 : s.1 0 = nI (vK c) := by rw [h1]; rfl
    rw [fX7_line_L23, if_pos (by rw [e1]; exact Int32.le_refl _)]
  · intro i s hi ⟨h1, h2⟩
    exact ⟨by rw [sA_1]; exact h1, by rw [sA_2, if_neg (by omega)]; exact h2⟩
theorem dg_n {x : Int32} (h : dg x) : ∃ d : Nat, d ≤ 9 ∧ x - 48 = nI d := by
  unfold dg at h
  have e : (x - 48).toInt = x.toInt - 48 := sub_ti (by show _ ≤ _ - (48 : Int); omega) (by show _ - (48 : Int) < _; omega)
  obtain ⟨d, h1, h2, h3⟩ := nI_back (x := x - 48) (by rw [e]; omega)
  exact ⟨d, by omega, h2⟩
theorem ok_line : OK_line Inv := by
  intro c m i0 i1 h
  obtain ⟨hW, hR, hP, hi0, hi1⟩ := h
  obtain ⟨r, e1, e2, e3⟩ := fault_s hP 1 6 (by omega) (by omega)
  have e1' : fX1_faultOf c 1 6 = some r := e1
  have e2' : fX7_faultOfDigits m 6 1 = some r := e2
  have p1 := hP.1
  have p2 := hP.2.1.1
  unfold fX6_line fX7_line
  rw [e1', e2']
  simp only [Option.bind_some]
  rcases e3 with ⟨rfl, k1, k2, k3⟩ | ⟨i, hi, rfl⟩
  · rw [if_pos rfl, if_pos (show (-6 : Int32) < 0 by decide)]
    unfold fX5_startLine_1
    have em : mmax 1 (mmin (c.1 0) 6) = nI (vK c) := by
      rw [p2]
      have : vK c = 1 ∨ vK c = 2 ∨ vK c = 3 ∨ vK c = 4 ∨ vK c = 5 ∨ vK c = 6 := by omega
      rcases this with q | q | q | q | q | q <;> rw [q] <;> decide
    rw [em, p1, p2]
    have q1 := line_c hP k2 (fun c4 => some (fX5_clearSights (sF (sF c4 2 0) 5 0)))
    have q2 := line_m hP k2 (fun c6 => some ((c6.1 0), (sF (sF (sF (sF c6 2 0) 3 0) 14 0) 16 0)))
    have z0 : (0 : Int32) = nI 0 := rfl
    rw [z0, ← z0]
    rw [show fX5_startLine_1_L19 (fun c4 => some (fX5_clearSights (sF (sF c4 2 0) 5 0))) fu 0 (sF c 1 (nI (vK c))) = _ from q1, show fX7_line_L23 (fun c6 => some ((c6.1 0), (sF (sF (sF (sF c6 2 0) 3 0) 14 0) 16 0))) fu 0 (sF m 0 (nI (vK c))) = _ from q2]
    obtain ⟨a1, a2, a3⟩ := lpA 1 0 (vK c) (fun i => c.2 0 i - 48) (sF c 1 (nI (vK c)))
    obtain ⟨b1, b2, b3⟩ := lpA 1 0 (vK c) (fun i => c.2 0 i - 48) (sF m 0 (nI (vK c)))
    generalize lp (vK c) (fun i s => sA s 1 (0 + i) (c.2 0 i - 48)) (sF c 1 (nI (vK c))) = C1 at a1 a2 a3 ⊢
    generalize lp (vK c) (fun i s => sA s 1 (0 + i) (c.2 0 i - 48)) (sF m 0 (nI (vK c))) = M1 at b1 b2 b3 ⊢
    simp only [Option.bind_some]
    have c1 : (fX5_clearSights (sF (sF C1 2 0) 5 0)).1 1 = nI (vK c) := by
      show C1.1 1 = _
      rw [a1]; rfl
    have m1 : M1.1 0 = nI (vK c) := by rw [b1]; rfl
    rw [c1, m1]
    refine ⟨_, _, _, rfl, rfl, ?_, ?_, ?_, ?_, ?_, ?_⟩
    · -- WOK
      obtain ⟨w1, w2, w3, w4, w5, w6, w7, w8, w9⟩ := hW
      have hv : vn (sF (fX5_clearSights (sF (sF C1 2 0) 5 0)) 0 0) = vK c := by
        unfold vn
        show ((fX5_clearSights (sF (sF C1 2 0) 5 0)).1 1).toNatClampNeg = _
        rw [c1]; exact nI_clamp (by omega)
      refine ⟨⟨?_, ?_, ?_⟩, fun s _ => b_0 s, ?_, ?_, fun p _ => b_0 p, ⟨rfl, Nat.zero_le _⟩, fun p _ => ⟨b_0 p, b_0 p⟩, fun s hs => ?_, fun p hp => ?_⟩
      · rw [hv]; exact c1
      · rw [hv]; exact k1
      · rw [hv]; exact k2
      · have : (sF (fX5_clearSights (sF (sF C1 2 0) 5 0)) 0 0).1 3 = c.1 3 := by show C1.1 3 = _; rw [a1]; rfl
        unfold vB; rw [this]; exact w3
      · have : (sF (fX5_clearSights (sF (sF C1 2 0) 5 0)) 0 0).1 4 = c.1 4 := by show C1.1 4 = _; rw [a1]; rfl
        unfold vE; rw [this]; exact w4
      · have : (sF (fX5_clearSights (sF (sF C1 2 0) 5 0)) 0 0).2 1 s = if 0 ≤ s ∧ s < 0 + vK c then c.2 0 (s - 0) - 48 else c.2 1 s := a3 s
        unfold vse; rw [this]
        by_cases h5 : 0 ≤ s ∧ s < 0 + vK c
        · rw [if_pos h5]
          obtain ⟨d, d1, d2⟩ := dg_n (k3 s (by omega))
          rw [Nat.sub_zero, d2, nI_clamp (by omega)]
          exact ⟨rfl, d1⟩
        · rw [if_neg h5]; exact w8 s hs
      · have e2 : (sF (fX5_clearSights (sF (sF C1 2 0) 5 0)) 0 0).2 2 = c.2 2 := a2 2 (by omega)
        have e3 : (sF (fX5_clearSights (sF (sF C1 2 0) 5 0)) 0 0).2 3 = c.2 3 := a2 3 (by omega)
        have e4 : (sF (fX5_clearSights (sF (sF C1 2 0) 5 0)) 0 0).2 4 = c.2 4 := a2 4 (by omega)
        have e5 : (sF (fX5_clearSights (sF (sF C1 2 0) 5 0)) 0 0).2 5 = c.2 5 := a2 5 (by omega)
        have e6 : (sF (fX5_clearSights (sF (sF C1 2 0) 5 0)) 0 0).2 6 = c.2 6 := a2 6 (by omega)
        have e7 : (sF (fX5_clearSights (sF (sF C1 2 0) 5 0)) 0 0).2 7 = c.2 7 := a2 7 (by omega)
        obtain ⟨⟨g1, g2, -⟩, g4⟩ := w9 p hp
        unfold pOK va vco
        rw [e2, e3, e4, e5, e6, e7]
        exact ⟨⟨g1, g2, fun q => absurd q (by show ¬ bt 0 p = true; rw [b_0]; decide)⟩, g4⟩
    · -- WR
      obtain ⟨r1, r2, r3, r4, r5, r6, r7, r8, r9⟩ := hR
      have hv : vn (sF (fX5_clearSights (sF (sF C1 2 0) 5 0)) 0 0) = vK c := by
        unfold vn
        show ((fX5_clearSights (sF (sF C1 2 0) 5 0)).1 1).toNatClampNeg = _
        rw [c1]; exact nI_clamp (by omega)
      have hS : vS (sF (fX5_clearSights (sF (sF C1 2 0) 5 0)) 0 0) = 0 := rfl
      refine ⟨?_, rfl, rfl, ?_, ?_, rfl, fun s hs => ?_, fun p hp => ?_, ⟨fun k hk => absurd hk (by rw [hS]; omega), fun p hp => ⟨⟨fun q => ?_, fun ⟨k, hk, _⟩ => absurd hk (by rw [hS]; omega)⟩, ⟨fun q => ?_, fun ⟨k, hk, _⟩ => absurd hk (by rw [hS]; omega)⟩, fun q => absurd q (by show ¬ bt 0 p = true; rw [b_0]; decide)⟩⟩⟩
      · show M1.1 0 = (fX5_clearSights (sF (sF C1 2 0) 5 0)).1 1
        rw [c1, m1]
      · show M1.1 10 = C1.1 3
        rw [a1, b1]; exact r4
      · show M1.1 11 = C1.1 4
        rw [a1, b1]; exact r5
      · show M1.2 1 s = C1.2 1 s
        rw [hv] at hs
        rw [a3, b3, if_pos (by omega), if_pos (by omega)]
      · obtain ⟨g1, g2, g3, g4, g5, g6⟩ := r8 p hp
        refine ⟨?_, ?_, ?_, ?_, ?_, ?_⟩
        · show M1.2 4 p = C1.2 2 p
          rw [a2 2 (by omega), b2 4 (by omega)]; exact g1
        · show M1.2 5 p = C1.2 3 p
          rw [a2 3 (by omega), b2 5 (by omega)]; exact g2
        · show M1.2 6 p = C1.2 4 p
          rw [a2 4 (by omega), b2 6 (by omega)]; exact g3
        · show M1.2 7 p = C1.2 5 p
          rw [a2 5 (by omega), b2 7 (by omega)]; exact g4
        · show M1.2 8 p = C1.2 6 p
          rw [a2 6 (by omega), b2 8 (by omega)]; exact g5
        · show M1.2 9 p = C1.2 7 p
          rw [a2 7 (by omega), b2 9 (by omega)]; exact g6
      · exact absurd q (by show ¬ bt 0 p = true; rw [b_0]; decide)
      · exact absurd q (by show ¬ bt 0 p = true; rw [b_0]; decide)
    · refine ⟨rfl, ⟨rfl, Nat.zero_le _⟩, fun j hj => ?_⟩
      show M1.2 15 j = C1.2 0 j ∧ 0 ≤ (C1.2 0 j).toInt ∧ (C1.2 0 j).toInt ≤ 126
      rw [a2 0 (by omega), b2 15 (by omega)]
      exact hP.2.2 j hj
    · exact iR_cg hi0 (b2 27 (by omega)) (b2 28 (by omega))
    · exact iR_cg hi1.1 (b2 27 (by omega)) (b2 28 (by omega))
    · intro a ha
      show (C1.2 20 a).toInt ≤ 99 ∧ (C1.2 17 a).toInt ≤ 99
      rw [a2 20 (by omega), a2 17 (by omega)]
      exact hi1.2 a ha
  · have h6 : ¬ nI i = -6 := by
      intro q
      have := congrArg Int32.toInt q
      rw [nI_ti (by omega), show (-6 : Int32).toInt = -6 from rfl] at this
      omega
    rw [if_neg h6, if_neg (nI_pos (by omega))]
    exact ⟨_, _, _, rfl, rfl, hW, hR, hP, hi0, hi1⟩
