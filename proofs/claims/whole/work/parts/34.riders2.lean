theorem MS_mk {m z : SS} (h1 : ∀ k, k = 0 ∨ k = 2 ∨ k = 3 ∨ k = 10 ∨ k = 11 ∨ k = 14 ∨ k = 16 → z.1 k = m.1 k) (h2 : ∀ k, k = 1 ∨ (4 ≤ k ∧ k ≤ 9) ∨ k = 12 ∨ k = 13 ∨ k = 15 ∨ k = 27 ∨ k = 28 → z.2 k = m.2 k) : MS m z :=
  ⟨⟨h1 0 (by omega), h1 2 (by omega), h1 3 (by omega), h1 10 (by omega), h1 11 (by omega), h1 14 (by omega), h1 16 (by omega)⟩, h2 1 (by omega), h2 4 (by omega), h2 5 (by omega), h2 6 (by omega), h2 7 (by omega), h2 8 (by omega), h2 9 (by omega), h2 12 (by omega), h2 13 (by omega), h2 15 (by omega), h2 27 (by omega), h2 28 (by omega)⟩
def GH (c : SS) : Prop := HF c ∧ (∀ j, j < vn c → ¬ big c j) ∧ hS c (vn c) ≤ vB c
def addD (n : Nat) (g : Nat → Nat) (y : SS) : SS := lp n (fun i s => sA s 20 (0 + i) (nI (dlS (fun _ => false) g (i + 1)))) y
theorem addD_f (n : Nat) (g : Nat → Nat) (y : SS) : (addD n g y).1 = y.1 ∧ (∀ j, j ≠ 20 → (addD n g y).2 j = y.2 j) ∧ ∀ s, (addD n g y).2 20 s = if s < n then nI (dlS (fun _ => false) g (s + 1)) else y.2 20 s := by
  obtain ⟨h1, h2, h3⟩ := lpA 20 0 n (fun i => nI (dlS (fun _ => false) g (i + 1))) y
  refine ⟨h1, h2, fun s => ?_⟩
  have := h3 s
  by_cases hs : s < n
  · rw [if_pos (by omega)] at this; rw [if_pos hs]; exact this
  · rw [if_neg (by omega)] at this; rw [if_neg hs]; exact this
theorem addD_s {y : SS} {n : Nat} {g : Nat → Nat} (hn : n ≤ 6) (y1 : y.1 1 = nI n) (yg : ∀ s, s < n → y.2 19 s = nI (g s)) : fX6_addDelays y = some (addD n g y) := by
  unfold fX6_addDelays addD
  refine (for_up (fun k i s => fX6_addDelays_L4 k (nI (dlS (fun _ => false) g i)) (nI i) s) n (fun i s => sA s 20 (0 + i) (nI (dlS (fun _ => false) g (i + 1)))) some (fun _ z => z.1 = y.1 ∧ z.2 19 = y.2 19) ?_ ?_ ?_ fu y (fu_big (by omega)) ⟨rfl, rfl⟩).1
  · intro k i z hi ⟨z1, z2⟩
    show fX6_addDelays_L4 (k + 1) _ (nI i) z = fX6_addDelays_L4 k (nI (dlS (fun _ => false) g (i + 1))) (nI (i + 1)) _
    rw [fX6_addDelays_L4, if_neg (by rw [z1, y1]; exact nI_ge hi (by omega)), ald_n (by omega) (by decide), z2, yg i hi, ckb_n (by omega) (by decide), inc_n, nI_add, nI_clamp (by omega), Nat.zero_add]
    rfl
  · intro k z ⟨z1, z2⟩
    show fX6_addDelays_L4 (k + 1) _ (nI n) z = some z
    rw [fX6_addDelays_L4, if_pos (by rw [z1, y1]; exact Int32.le_refl _)]
  · intro i z hi ⟨z1, z2⟩
    exact ⟨by rw [sA_1]; exact z1, by rw [sA_2, if_neg (by omega)]; exact z2⟩
/-- the class's state behind readGoodHold -/
def ZC (c z : SS) : Prop := z.1 = c.1 ∧ (∀ j, j ≠ 8 → j ≠ 19 → j ≠ 20 → z.2 j = c.2 j) ∧ (∀ p, p < 8 → z.2 8 p = ndv c (bt (c.1 2)) p) ∧ (∀ s, s < vn c → z.2 19 s = nI (hd c s)) ∧ (∀ s, s < vn c → z.2 20 s = nI (hS c (s + 1))) ∧ ∀ s, vn c ≤ s → z.2 20 s = c.2 20 s
theorem ZC.cm {c z : SS} (hW : WOK c) (hf : HF c) (h : ZC c z) : CM c z := by
  obtain ⟨h1, h2, h3, h4, h5, h6⟩ := h
  refine ⟨fun k _ => by rw [h1], fun k hk => h2 k (by omega) (by omega) (by omega), fun hx a ha => ⟨?_, ?_⟩⟩
  · by_cases hs : a < vn c
    · rw [h5 a hs]
      have : hS c (a + 1) ≤ 9 * (a + 1) := hdS_le hf (a + 1) (by omega)
      rw [nI_ti (by omega)]; omega
    · rw [h6 a (by omega)]; exact (hx a ha).1
  · rw [h2 17 (by omega) (by omega) (by omega)]; exact (hx a ha).2
theorem WOK_1 {c z : SS} (hW : WOK c) (h1 : z.1 = c.1) (h2 : ∀ j, j ≤ 7 → z.2 j = c.2 j) : WOK z := WOK_cg hW (fun k _ _ => by rw [h1]) (fun k _ hk => h2 k hk)
theorem rgh_c {c m : SS} (hW : WOK c) (hP : PR c m) : (GH c ∧ ∃ z, fX6_readGoodHold c = some (1, z) ∧ ZC c z) ∨ (¬ GH c ∧ ∃ z, fX6_readGoodHold c = some (0, z) ∧ CM c z) := by
  obtain ⟨⟨n1, n2, n3⟩, -⟩ := id hW
  have six : ∀ i : Nat, i < 6 → ¬ nI i = -6 := by
    intro i hi q
    have := congrArg Int32.toInt q
    rw [nI_ti (by omega), show (-6 : Int32).toInt = -6 from rfl] at this
    omega
  unfold fX6_readGoodHold
  rcases readHold_c hW hP with ⟨hf, e⟩ | ⟨hf, e⟩
  · obtain ⟨f1, f2, f3⟩ := rdh_f c
    rw [e]
    simp only [Option.bind_some]
    rw [if_neg (show ¬ (1 : Int32) = 0 by decide)]
    have cmr : CM c (rdh c) := ⟨fun k _ => by rw [f1], fun k hk => f2 k (by omega), fun hx a ha => by rw [f2 20 (by omega), f2 17 (by omega)]; exact hx a ha⟩
    rcases overEach_c hW hf f1 f3 with ⟨i, i1, i2, i3, i4⟩ | ⟨g1, g2⟩
    · right
      refine ⟨fun q => q.2.1 i i1 i2, rdh c, ?_, cmr⟩
      rw [i4]
      simp only [Option.bind_some]
      rw [if_neg (six i (by omega))]
    · rw [g2]
      simp only [Option.bind_some, if_true]
      rcases overBr_c hW hf f1 f3 with ⟨i, i1, i2, i3, i4⟩ | ⟨k1, k2⟩
      · right
        refine ⟨fun q => ?_, rdh c, ?_, cmr⟩
        · have h1 : hS c (i + 1) ≤ hS c (vn c) := hS_mono c (by omega)
          have h2 : vB c < hS c (i + 1) := i2
          have := q.2.2
          omega
        · rw [i4]
          simp only [Option.bind_some]
          rw [if_neg (six i (by omega))]
      · left
        have hB : hS c (vn c) ≤ vB c := by
          have := k1 (vn c - 1) (by omega)
          rw [show vn c - 1 + 1 = vn c by omega] at this
          exact Nat.le_of_not_lt this
        refine ⟨⟨hf, g1, hB⟩, ?_⟩
        rw [k2]
        simp only [Option.bind_some, if_true]
        have hWr : WOK (rdh c) := WOK_1 hW f1 (fun j hj => f2 j (by omega))
        rw [measure_s hWr]
        obtain ⟨m1, m2, m3⟩ := msr_f (rdh c) ((rdh c).1 2)
        have hy1 : (msr (rdh c) ((rdh c).1 2)).1 1 = nI (vn c) := by rw [m1, f1]; exact n1
        have hyg : ∀ s, s < vn c → (msr (rdh c) ((rdh c).1 2)).2 19 s = nI (hd c s) := fun s hs => by rw [m2 19 (by omega)]; exact f3 s hs
        simp only [Option.bind_some]
        rw [addD_s n3 hy1 hyg]
        obtain ⟨a1, a2, a3⟩ := addD_f (vn c) (hd c) (msr (rdh c) ((rdh c).1 2))
        refine ⟨_, rfl, ?_, fun j h1 h2 h3 => ?_, fun p hp => ?_, fun s hs => ?_, fun s hs => ?_, fun s hs => ?_⟩
        · rw [a1, m1, f1]
        · rw [a2 j h3, m2 j h1, f2 j h2]
        · rw [a2 8 (by omega), m3 p hp]
          unfold ndv va
          rw [f1, f2 1 (by omega), f2 2 (by omega), f2 3 (by omega)]
        · rw [a2 19 (by omega)]; exact hyg s hs
        · rw [a3, if_pos hs]; rfl
        · rw [a3, if_neg (by omega), m2 20 (by omega), f2 20 (by omega)]
  · right
    refine ⟨fun q => hf q.1, c, ?_, CM.rf c⟩
    rw [e]
    rfl
theorem ref_m {c m : SS} (hW : WOK c) (hR : WR c m) (hP : PR c m) : (GH c ∧ ∃ z, fX7_isRefused m = some (0, z) ∧ MW c z (c.1 2) (hd c) ∧ MS m z) ∨ (¬ GH c ∧ ∃ z, fX7_isRefused m = some (1, z) ∧ MS m z) := by
  obtain ⟨⟨n1, n2, n3⟩, -⟩ := id hW
  obtain ⟨r, e1, e2, e3⟩ := fault1 hW hP
  have ef : fX7_fault m 1 = some r := by
    unfold fX7_fault
    rw [if_neg (by decide), if_pos rfl, hR.1, e2]
    rfl
  unfold fX7_isRefused
  rw [ef]
  simp only [Option.bind_some]
  rcases e3 with ⟨hf, rfl⟩ | ⟨hf, i, hi, rfl⟩
  · rw [if_pos (show (-6 : Int32) < 0 by decide)]
    obtain ⟨z, j1, j2, j3, j4, j5⟩ := judge_m hW hR hP hf
    rw [j1]
    simp only [Option.bind_some]
    have hMS : MS m z := MS_mk (fun k hk => j2 k (by omega) (by omega)) (fun k hk => j3 k (by omega))
    rcases j5 with ⟨e, q1, q2, q3, q4, q5⟩ | ⟨q0, b, q1, q2, q3, q4, q5⟩ | ⟨q0, q1, q2, q3⟩
    · right
      refine ⟨fun q => q.2.1 e q1 q2, z, ?_, hMS⟩
      rw [q5, if_neg (by decide)]
    · right
      refine ⟨fun q => ?_, z, ?_, hMS⟩
      · have h1 : hS c (b + 1) ≤ hS c (vn c) := hS_mono c (by omega)
        have := q.2.2
        omega
      · rw [q5, if_neg (by decide)]
    · left
      refine ⟨⟨hf, q0, q1⟩, z, ?_, ?_, hMS⟩
      · rw [q3, if_pos (by decide)]
      · refine ⟨by rw [j2 0 (by omega) (by omega)]; exact hR.1, by rw [j2 2 (by omega) (by omega)]; exact hR.2.1, by rw [j2 3 (by omega) (by omega)]; exact hR.2.2.1, fun j hj => by rw [j3 1 (by omega)]; exact hR.2.2.2.2.2.2.1 j hj, fun p hp => ?_, fun j hj => ⟨j4 j hj, by have := (hd_le hf hj).1; omega⟩⟩
        unfold pR
        rw [j3 4 (by omega), j3 5 (by omega), j3 6 (by omega), j3 7 (by omega), j3 8 (by omega), j3 9 (by omega)]
        exact hR.2.2.2.2.2.2.2.1 p hp
  · right
    refine ⟨fun q => hf q.1, m, ?_, MS.rf m⟩
    rw [if_neg (nI_pos (by omega))]
theorem zc_late {c z : SS} (hW : WOK c) (hf : HF c) (hX : XB c) (h : ZC c z) (late : Nat) (hl : late ≤ 100) : fX4_ridersLate_27 z (nI late) = some (bs (rdB c (bt (c.1 2)) (dly (bt (c.1 2)) (hd c)) late)) := by
  obtain ⟨h1, h2, h3, h4, h5, h6⟩ := id h
  refine late27_s hW (bt (c.1 2)) h1 (h2 2 (by omega) (by omega) (by omega)) h3 _ (fun p hp => ?_) late hl
  obtain ⟨⟨g1, g2, g3⟩, -⟩ := hW.2.2.2.2.2.2.2.2 p hp
  refine ⟨_, rfl, ((h.cm hW hf).2.2 hX (va c p) g2).1, fun hb => ?_⟩
  rw [h5 _ (g3 hb)]
  have e : dly (bt (c.1 2)) (hd c) (va c p) = hS c (va c p + 1) := hd_dl c _
  rw [e]
  have : hS c (va c p + 1) ≤ 9 * (va c p + 1) := hdS_le hf (va c p + 1) (by have := g3 hb; omega)
  exact ⟨rfl, by omega⟩
theorem zc_by {c z : SS} (hW : WOK c) (hf : HF c) (hX : XB c) (h : ZC c z) : fX4_ridersBy_27 z = some (bs (rdB c (bt (c.1 2)) (dly (bt (c.1 2)) (hd c)) 0)) := by
  unfold fX4_ridersBy_27
  have := zc_late hW hf hX h 0 (by omega)
  rw [show fX4_ridersLate_27 z 0 = _ from this]
  rfl
/-- the riders by the pad's hold -/
def rdp (c : SS) : Nat → Bool := rdB c (bt (c.1 2)) (dly (bt (c.1 2)) (hd c)) 0
theorem flv_ms {c m z : SS} {sh : Int32} {h : Nat → Nat} (hm : MS m z) : MS m (flv c sh h z) := by
  obtain ⟨f1, f2, f3⟩ := flv_f c sh h z
  exact hm.tr (MS_mk (fun k _ => by rw [f1]) (fun k hk => f2 k (by omega)))
theorem ok_riders : OK_riders Inv := by
  intro c m i0 i1 h
  obtain ⟨hW, hR, hP, hi0, hi1, hX⟩ := id h
  unfold fX6_riders fX7_riders
  rcases rgh_c hW hP with ⟨hg, z, e, hz⟩ | ⟨hg, z, e, hz⟩
  · rcases ref_m hW hR hP with ⟨-, y, f, hy, hms⟩ | ⟨hn, -⟩
    · rw [e, f]
      simp only [Option.bind_some, if_true, show ¬ (1 : Int32) = 0 by decide, if_false]
      rw [zc_by hW hg.1 hX hz, now_m hW hy]
      exact ⟨_, _, _, rfl, rfl, Inv_of h (hz.cm hW hg.1) (flv_ms hms)⟩
    · exact absurd hg hn
  · rcases ref_m hW hR hP with ⟨hn, -⟩ | ⟨-, y, f, hms⟩
    · exact absurd hn hg
    · rw [e, f]
      simp only [Option.bind_some, if_true, show ¬ (1 : Int32) = 0 by decide, if_false]
      exact ⟨_, _, _, rfl, rfl, Inv_of h hz hms⟩
