/-! the planner's sets; the class's fewestBreaths -/
def gSn (c : SS) (ri wa : Int32) (i s d : Nat) : Int := if badN c ri wa i s d then -1000000 else 0
theorem iI_neg (a : Int) : -(iI a) = iI (-a) := (Int32.ofInt_neg a).symm
theorem wantS_in {c z : SS} (hW : WOK c) (h8 : ∀ p, p < 8 → z.2 8 p = ndv c (bt (c.1 2)) p) (ri wa : Int32) {i : Nat} (hi : i < 8) {y : SS} (hy : GR c z 10 (gSn c ri wa i) y) (K : SS → Option SS) : ∃ y2, GR c z 10 (gSn c ri wa (i + 1)) y2 ∧ fX2_wantSets_L29 K ri wa (nI i) (nI (va c i * 11)) fu 0 y = K y2 := by
  obtain ⟨⟨g1, g2, g3⟩, -⟩ := hW.2.2.2.2.2.2.2.2 i hi
  have hh := for_inv (fun n d (q : SS) => fX2_wantSets_L29 K ri wa (nI i) (nI (va c i * 11)) n (nI d) q) 11 K (fun d q => GR c z 10 (fun s d2 => if (badN c ri wa i s d2 || (decide (va c i = s ∧ d2 < d) && bad1 ri wa i (rq c i d2))) = true then -1000000 else 0) q) ?_ ?_ fu y (fu_big (by omega)) ?_
  · obtain ⟨y2, ⟨h1, h2, h3⟩, e⟩ := hh
    refine ⟨y2, ⟨h1, h2, fun s d hs hd => ?_⟩, e⟩
    rw [h3 s d hs hd]
    dsimp only
    unfold gSn badN
    rw [lp_s, show decide (va c i = s ∧ d < 11) = decide (va c i = s) from decide_eq_decide.mpr ⟨fun q => q.1, fun q => ⟨q, by omega⟩⟩]
  · intro n d q hd ⟨h1, h2, h3⟩
    show ∃ q2, _ ∧ fX2_wantSets_L29 K ri wa (nI i) (nI (va c i * 11)) (n + 1) (nI d) q = fX2_wantSets_L29 K ri wa (nI i) (nI (va c i * 11)) n (nI (d + 1)) q2
    have step : fX2_wantSets_L29 K ri wa (nI i) (nI (va c i * 11)) (n + 1) (nI d) q = if bad1 ri wa i (rq c i d) = true then fX2_wantSets_L29 K ri wa (nI i) (nI (va c i * 11)) n (nI (d + 1)) (sA q 9 (va c i * 11 + d) (-1000000)) else fX2_wantSets_L29 K ri wa (nI i) (nI (va c i * 11)) n (nI (d + 1)) q := by
      rw [fX2_wantSets_L29, if_neg (n11 hd), ald_n hi (by decide), h2 8 (by omega), h8 i hi, inc_n, nI_add, nI_clamp (by omega)]
      simp only [jn_e, ckb_n (show va c i * 11 + d < 66 by omega) (show 66 < 2 ^ 31 by decide), bt_dec _ i (show i < 32 by omega)]
      have hq := need_q hW (p := i) (d := d) hi (by omega)
      cases e : rq c i d with
      | true => rw [if_neg (fun z => by have := hq.mp z; rw [e] at this; cases this)]; rfl
      | false => rw [if_pos (hq.mpr e)]; rfl
    rw [step]
    cases hb : bad1 ri wa i (rq c i d) with
    | true =>
      rw [if_pos rfl]
      refine ⟨sA q 9 (va c i * 11 + d) (-1000000), ⟨h1, fun j hj => by rw [sA_2, if_neg hj]; exact h2 j hj, fun s d2 hs hd2 => ?_⟩, rfl⟩
      rw [sA_2, if_pos rfl, upd_e]
      by_cases e : s * 11 + d2 = va c i * 11 + d
      · have e1 : va c i = s := by omega
        have e2 : d2 = d := by omega
        subst e2
        rw [if_pos e]
        dsimp only
        rw [hb, decide_eq_true (show va c i = s ∧ d2 < d2 + 1 from ⟨e1, by omega⟩), Bool.and_true, Bool.or_true, if_pos rfl]
        rfl
      · rw [if_neg e, h3 s d2 hs hd2]
        dsimp only
        rw [show decide (va c i = s ∧ d2 < d + 1) = decide (va c i = s ∧ d2 < d) from decide_eq_decide.mpr ⟨fun q => ⟨q.1, by
          by_cases e3 : d2 = d
          · exact absurd (by rw [q.1, e3]) e
          · omega⟩, fun q => ⟨q.1, by omega⟩⟩]
    | false =>
      rw [if_neg (by decide)]
      refine ⟨q, ⟨h1, h2, fun s d2 hs hd2 => ?_⟩, rfl⟩
      rw [h3 s d2 hs hd2]
      dsimp only
      by_cases e3 : d2 = d
      · subst e3
        rw [hb, Bool.and_false, Bool.and_false]
      · rw [show decide (va c i = s ∧ d2 < d + 1) = decide (va c i = s ∧ d2 < d) from decide_eq_decide.mpr ⟨fun q => ⟨q.1, by omega⟩, fun q => ⟨q.1, by omega⟩⟩]
  · intro n q hq
    show fX2_wantSets_L29 K ri wa (nI i) (nI (va c i * 11)) (n + 1) (nI 11) q = K q
    rw [fX2_wantSets_L29, if_pos (show (11 : Int32) ≤ nI 11 by decide)]
  · refine ⟨hy.1, hy.2.1, fun s d hs hd => ?_⟩
    rw [hy.2.2 s d hs hd]
    dsimp only
    unfold gSn
    rw [decide_eq_false (fun q => absurd q.2 (by omega)), Bool.false_and, Bool.or_false]
theorem wantSets_c {c z : SS} (hW : WOK c) (hz : PC c z) (h8 : ∀ p, p < 8 → z.2 8 p = ndv c (bt (c.1 2)) p) (ri wa : Int32) : ∃ y, fX2_wantSets z ri wa = some y ∧ GR c z 10 (gS c ri wa) y := by
  obtain ⟨k1, k2, k3⟩ := clG_f z
  unfold fX2_wantSets
  rw [clearG_c, Option.bind_some]
  have hh := for_inv (fun n i (q : SS) => fX2_wantSets_L6 ri wa n (nI i) q) 8 some (fun i q => GR c z 10 (gSn c ri wa i) q) ?_ ?_ fu (clG z) (fu_big (by omega)) ⟨k1, k2, fun s d hs hd => by rw [k3 _ (by omega)]; rfl⟩
  · obtain ⟨y, y1, y2⟩ := hh
    exact ⟨y, y2, y1⟩
  · intro n i q hi hq
    show ∃ q2, _ ∧ fX2_wantSets_L6 ri wa (n + 1) (nI i) q = fX2_wantSets_L6 ri wa n (nI (i + 1)) q2
    obtain ⟨⟨g1, g2, g3⟩, -⟩ := hW.2.2.2.2.2.2.2.2 i hi
    rw [fX2_wantSets_L6, if_neg (n8 hi), inc_n, ald_n hi (by decide), hq.2.1 2 (by omega), hz.2 2 (by omega), g1, nI_m11]
    exact wantS_in hW h8 ri wa hi hq _
  · intro n q hq
    show fX2_wantSets_L6 ri wa (n + 1) (nI 8) q = some q
    rw [fX2_wantSets_L6, if_pos (show (8 : Int32) ≤ nI 8 by decide)]
/-- both searches for the fewest breaths side by side -/
theorem few_pair {c m y z : SS} (hW : WOK c) (hR : WR c m) (hy : PC c y) (hz : FM m z) {ri wa : Int32} (h1 : ∀ i, 8 ≤ i → bt ri i = false) (h2 : ∀ i, 8 ≤ i → bt wa i = false) (hs : SB c ri) :
    ∃ r y2 z2, fX6_fewestBreaths y ri wa = some (r, y2) ∧ fX7_fewestFor z ri wa = some (r, z2) ∧ PC c y2 ∧ FM m z2 ∧ (r = -6 ∨ ∃ k, k ≤ 10 ∧ r = nI k ∧ PK (tS c ri wa) c (vB c) y2 ∧ ∀ j, j < 6 → z2.2 21 j = nI (pl (tS c ri wa) (bt (c.1 2)) (vE c) (vB c) (vn c) (vn c) (fun _ => 0) j)) := by
  obtain ⟨⟨n1, n2, n3⟩, -, ⟨b1, b2⟩, ⟨e1, e2⟩, -⟩ := id hW
  obtain ⟨y1, a1, a2, a3⟩ := meas_c hW hy
  obtain ⟨y2, f1, f2, f3, f4⟩ := wantSets_c hW a2 a3 ri wa
  obtain ⟨w1, w2, w3⟩ := wgA_f (-1) y2
  obtain ⟨y4, d1, d2, d3, d4⟩ := solve_c (z := wgA (-1) y2) (sh := c.1 2) (E := vE c) (B := vB c) (n := vn c) (G := gS c ri wa) (w := fun _ => -1) n2 n3 (by omega) e2 (by rw [w1, f2, a2.1]; exact n1) (by rw [w1, f2, a2.1]) (by rw [w1, f2, a2.1]; exact e1) (gS_bd c ri wa) (fun _ => by omega) (fun s d hs hd => by rw [w2 9 (by omega)]; exact f4 s d (by omega) (by omega)) (fun s hs => by rw [w3 s (by omega)]; rfl)
  obtain ⟨z2, g1, g2, g3⟩ := fewest_m hW hR hz h1 h2
  have hP : PC c y4 := a2.of (by rw [d2, w1, f2]) (fun j hj => by rw [d3 j (by omega) (by omega), w2 j (by omega), f3 j (by omega)])
  have hb := dV_bd (gS_bd c ri wa) (w := fun _ => -1) (fun _ => by omega) (cl := bt (c.1 2)) (E := vE c) (B := vB c) (n := vn c) e2 (vn c) 0
  have hb2 : -6000060 ≤ dS c ri wa ∧ dS c ri wa ≤ 6000060 := by
    unfold dS tS
    omega
  have e5 : (-500000 : Int32) = iI (-500000) := rfl
  have hcls : fX6_fewestBreaths y ri wa = if (-500000 : Int32) < iI (dS c ri wa) then some (-(iI (dS c ri wa)), y4) else some (-6, y4) := by
    unfold fX6_fewestBreaths
    rw [hy.1, a1, Option.bind_some, f1, Option.bind_some, weigh_c, Option.bind_some, w1, f2, a2.1, b1, d1, Option.bind_some]
    rfl
  rw [hcls, g1]
  rcases fw_eq hW hs (z.2 21) with ⟨q1, q2⟩ | ⟨k, k1, k2, k3, k4⟩
  · refine ⟨-6, y4, z2, ?_, by rw [q2], hP, g2, Or.inl rfl⟩
    rw [if_neg]
    intro q
    have := i32_lt.mp q
    rw [e5, iI_ti (by omega) (by omega), iI_ti (by omega) (by omega)] at this
    omega
  · refine ⟨nI k, y4, z2, ?_, by rw [k3], hP, g2, Or.inr ⟨k, k1, rfl, d4, fun j hj => by rw [g3 j hj, k4]⟩⟩
    rw [if_pos, k2, iI_neg, Int.neg_neg, nI_iI]
    rw [i32_lt, e5, iI_ti (by omega) (by omega), iI_ti (by omega) (by omega)]
    omega
