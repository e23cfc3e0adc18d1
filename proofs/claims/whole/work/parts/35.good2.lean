theorem lit01 (a : Int32) : (0 ≤ a.toInt ∧ a.toInt ≤ 1) → a = 0 ∨ a = 1 := by
  intro h
  have : a.toInt = 0 ∨ a.toInt = 1 := by omega
  rcases this with q | q
  · left; exact nI_lit (k := 0) (by decide) q
  · right; exact nI_lit (k := 1) (by decide) q
theorem win01 (a : Int32) : fX6_within a 0 1 = if 0 ≤ a.toInt ∧ a.toInt ≤ 1 then 1 else 0 := by rw [win]; rfl
theorem lin01 (a : Int32) : fX7_in a.toInt64 (0 : Int64) (1 : Int64) = if 0 ≤ a.toInt ∧ a.toInt ≤ 1 then 1 else 0 := by rw [lin]; rfl
theorem ok_good : OK_good Inv := by
  intro c m i0 i1 a h
  obtain ⟨hW, hR, hP, hi0, hi1, hX⟩ := id h
  unfold fX6_good fX7_good
  rw [win01, lin01]
  simp only [ite0, jn_e]
  by_cases ha : 0 ≤ a.toInt ∧ a.toInt ≤ 1
  · simp only [ha, and_self, not_true_eq_false, if_false]
    rcases rgh_c hW hP with ⟨hg, z, e, hz⟩ | ⟨hg, z, e, hz⟩
    · rcases ref_m hW hR hP with ⟨-, y, f, hy, hms⟩ | ⟨hn, -⟩
      · rw [e, f]
        simp only [Option.bind_some, if_true, show ¬ (1 : Int32) = 0 by decide, if_false]
        rw [zc_by hW hg.1 hX hz, now_m hW hy]
        obtain ⟨z1, z2, -⟩ := id hz
        have hL := hy.l2 hW
        simp only [Option.bind_some]
        rw [good_cs (c := c) (by rw [z1]) (z2 4 (by omega) (by omega) (by omega)) (z2 5 (by omega) (by omega) (by omega)), others_cs (c := c) (z2 6 (by omega) (by omega) (by omega)), good_ms hL.2.1 hL.2.2.1, others_ms hL.2.2.1, gd_255]
        have hI2 := Inv_of h (hz.cm hW hg.1) (flv_ms (c := c) (sh := c.1 2) (h := hd c) hms)
        rcases lit01 a ha with rfl | rfl
        · exact ⟨_, _, _, rfl, rfl, hI2⟩
        · exact ⟨_, _, _, rfl, rfl, hI2⟩
      · exact absurd hg hn
    · rcases ref_m hW hR hP with ⟨hn, -⟩ | ⟨-, y, f, hms⟩
      · exact absurd hn hg
      · rw [e, f]
        simp only [Option.bind_some, if_true, show ¬ (1 : Int32) = 0 by decide, if_false]
        exact ⟨_, _, _, rfl, rfl, Inv_of h hz hms⟩
  · simp only [ha, not_false_eq_true, if_true]
    exact ⟨_, _, _, rfl, rfl, h⟩
theorem ok_leaves : OK_leaves Inv := by
  intro c m i0 i1 a h
  obtain ⟨hW, hR, hP, hi0, hi1, hX⟩ := id h
  unfold fX6_leaves fX7_leaves
  rw [stop_c hW, stop_m hW hR]
  simp only [ite0]
  by_cases ha : 0 ≤ a.toInt ∧ a.toInt < vn c
  · simp only [ha, and_self, not_true_eq_false, if_false]
    have n3 := hW.1.2.2
    obtain ⟨s, s1, rfl, s3⟩ := nI_back ha.1
    have hs : s < vn c := by omega
    rcases rgh_c hW hP with ⟨hg, z, e, hz⟩ | ⟨hg, z, e, hz⟩
    · rcases ref_m hW hR hP with ⟨-, y, f, hy, hms⟩ | ⟨hn, -⟩
      · rw [e, f]
        simp only [Option.bind_some, if_true, show ¬ (1 : Int32) = 0 by decide, if_false]
        obtain ⟨z1, z2, z3, z4, z5, z6⟩ := id hz
        have ez : z.2 1 = c.2 1 := z2 1 (by omega) (by omega) (by omega)
        rw [departs_s (c := z) (by rw [ez]; exact hW.se) _ (by omega), ez, leaves_m hW hy]
        obtain ⟨f1, f2, f3⟩ := flv_f c (c.1 2) (hd c) y
        simp only [Option.bind_some]
        rw [ald_n (by omega) (by decide), ald_n (by omega) (by decide), z5 s hs, f3 s hs, nI_add, z1]
        have e2 : dly (bt (c.1 2)) (hd c) s = hS c (s + 1) := hd_dl c _
        rw [e2]
        exact ⟨_, _, _, rfl, rfl, Inv_of h (hz.cm hW hg.1) (flv_ms hms)⟩
      · exact absurd hg hn
    · rcases ref_m hW hR hP with ⟨hn, -⟩ | ⟨-, y, f, hms⟩
      · exact absurd hn hg
      · rw [e, f]
        simp only [Option.bind_some, if_true, show ¬ (1 : Int32) = 0 by decide, if_false]
        exact ⟨_, _, _, rfl, rfl, Inv_of h hz hms⟩
  · simp only [ha, not_false_eq_true, if_true]
    exact ⟨_, _, _, rfl, rfl, h⟩
theorem ok_judge : OK_judge Inv := by
  intro c m i0 i1 a h
  obtain ⟨hW, hR, hP, hi0, hi1, hX⟩ := id h
  obtain ⟨⟨n1, n2, n3⟩, -⟩ := id hW
  have six : ∀ i : Nat, i < 6 → ¬ nI i = -6 := by
    intro i hi q
    have := congrArg Int32.toInt q
    rw [nI_ti (by omega), show (-6 : Int32).toInt = -6 from rfl] at this
    omega
  unfold fX6_judge fX7_judge
  rw [win01, lin01]
  simp only [ite0]
  by_cases ha : 0 ≤ a.toInt ∧ a.toInt ≤ 1
  · simp only [ha, and_self, not_true_eq_false, if_false]
    obtain ⟨r, e1, e2, e3⟩ := fault1 hW hP
    have ef : fX7_fault m 1 = some r := by
      unfold fX7_fault
      rw [if_neg (by decide), if_pos rfl, hR.1, e2]
      rfl
    rw [ef]
    simp only [Option.bind_some]
    rcases readHold_c hW hP with ⟨hf, e⟩ | ⟨hf, e⟩
    · rcases e3 with ⟨-, rfl⟩ | ⟨hn, -⟩
      · obtain ⟨f1, f2, f3⟩ := rdh_f c
        have cmr : CM c (rdh c) := ⟨fun k _ => by rw [f1], fun k hk => f2 k (by omega), fun hx a ha => by rw [f2 20 (by omega), f2 17 (by omega)]; exact hx a ha⟩
        obtain ⟨z, j1, j2, j3, j4, j5⟩ := judge_m hW hR hP hf
        have hMS : MS m z := MS_mk (fun k hk => j2 k (by omega) (by omega)) (fun k hk => j3 k (by omega))
        have hI2 := Inv_of h cmr hMS
        rw [e, j1]
        simp only [Option.bind_some, show ¬ (1 : Int32) = 0 by decide, if_false, show (-6 : Int32) < 0 by decide, if_true]
        rcases overEach_c hW hf f1 f3 with ⟨i, i1, i2, i3, i4⟩ | ⟨g1, g2⟩
        · rcases j5 with ⟨e, q1, q2, q3, q4, q5⟩ | ⟨q0, b, q1, q2, q3, q4, q5⟩ | ⟨q0, q1, q2, q3⟩
          · have hie : i = e := by
              rcases Nat.lt_trichotomy i e with hl | hl | hl
              · exact absurd i2 (q3 i hl)
              · exact hl
              · exact absurd q2 (i3 e hl)
            subst hie
            rw [i4, q4, q5]
            simp only [Option.bind_some, six i (by omega), if_false]
            rcases lit01 a ha with rfl | rfl
            · exact ⟨_, _, _, rfl, rfl, hI2⟩
            · exact ⟨_, _, _, rfl, rfl, hI2⟩
          · exact absurd i2 (q0 i i1)
          · exact absurd i2 (q0 i i1)
        · rw [g2]
          simp only [Option.bind_some, if_true]
          rcases overBr_c hW hf f1 f3 with ⟨i, i1, i2, i3, i4⟩ | ⟨k1, k2⟩
          · rcases j5 with ⟨e, q1, q2, q3, q4, q5⟩ | ⟨q0, b, q1, q2, q3, q4, q5⟩ | ⟨q0, q1, q2, q3⟩
            · exact absurd q2 (g1 e q1)
            · have hib : i = b := by
                have h2 : vB c < hS c (i + 1) := i2
                rcases Nat.lt_trichotomy i b with hl | hl | hl
                · have := hS_mono c (i := i + 1) (j := b) (by omega); omega
                · exact hl
                · exact absurd q2 (i3 b hl)
              subst hib
              rw [i4, q4, q5]
              simp only [Option.bind_some, six i (by omega), if_false]
              rcases lit01 a ha with rfl | rfl
              · exact ⟨_, _, _, rfl, rfl, hI2⟩
              · exact ⟨_, _, _, rfl, rfl, hI2⟩
            · have h2 : vB c < hS c (i + 1) := i2
              have := hS_mono c (i := i + 1) (j := vn c) (by omega)
              omega
          · rcases j5 with ⟨e, q1, q2, q3, q4, q5⟩ | ⟨q0, b, q1, q2, q3, q4, q5⟩ | ⟨q0, q1, q2, q3⟩
            · exact absurd q2 (g1 e q1)
            · exact absurd q2 (k1 b q1)
            · rw [k2, q2, q3]
              simp only [Option.bind_some, if_true]
              rcases lit01 a ha with rfl | rfl
              · exact ⟨_, _, _, rfl, rfl, hI2⟩
              · exact ⟨_, _, _, rfl, rfl, hI2⟩
      · exact absurd hf hn
    · rcases e3 with ⟨hn, -⟩ | ⟨-, i, hi, rfl⟩
      · exact absurd hn hf
      · rw [e]
        simp only [Option.bind_some, if_true]
        rw [if_neg (nI_pos (by omega))]
        exact ⟨_, _, _, rfl, rfl, h⟩
  · simp only [ha, not_false_eq_true, if_true]
    exact ⟨_, _, _, rfl, rfl, h⟩
