/-! the planner's wants -/
/-- the class's state: only rows that are worked on have changed -/
def PC (c z : SS) : Prop := z.1 = c.1 ∧ ∀ j, (j ≤ 7 ∨ 17 ≤ j) → z.2 j = c.2 j
theorem PC.rf (c : SS) : PC c c := ⟨rfl, fun _ _ => rfl⟩
theorem PC.cm {c z : SS} (h : PC c z) : CM c z := ⟨fun k _ => by rw [h.1], fun k hk => h.2 k (Or.inl hk), fun hx a ha => by rw [h.2 20 (by omega), h.2 17 (by omega)]; exact hx a ha⟩
theorem PC.wok {c z : SS} (hW : WOK c) (h : PC c z) : WOK z := WOK_1 hW h.1 (fun j hj => h.2 j (Or.inl hj))
theorem PC.of {c z y : SS} (h : PC c z) (h1 : y.1 = z.1) (h2 : ∀ j, (j ≤ 7 ∨ 17 ≤ j) → y.2 j = z.2 j) : PC c y := ⟨h1.trans h.1, fun j hj => (h2 j hj).trans (h.2 j hj)⟩
theorem meas_c {c z : SS} (hW : WOK c) (hz : PC c z) : ∃ y, fX4_measure z (c.1 2) = some y ∧ PC c y ∧ ∀ p, p < 8 → y.2 8 p = ndv c (bt (c.1 2)) p := by
  obtain ⟨m1, m2, m3⟩ := msr_f z (c.1 2)
  rw [measure_s (hz.wok hW)]
  refine ⟨_, rfl, hz.of m1 (fun j hj => m2 j (by omega)), fun p hp => ?_⟩
  rw [m3 p hp]
  unfold ndv va
  rw [hz.1, hz.2 1 (by omega), hz.2 2 (by omega), hz.2 3 (by omega)]
def clG (z : SS) : SS := lp 66 (fun i s => sA s 9 (0 + i) 0) z
theorem clG_f (z : SS) : (clG z).1 = z.1 ∧ (∀ j, j ≠ 9 → (clG z).2 j = z.2 j) ∧ ∀ j, j < 66 → (clG z).2 9 j = 0 := by
  obtain ⟨h1, h2, h3⟩ := lpA 9 0 66 (fun _ => 0) z
  refine ⟨h1, h2, fun p hp => ?_⟩
  have := h3 p
  rw [if_pos (by omega)] at this
  exact this
theorem clearG_c (z : SS) : fX2_clearGain z = some (clG z) := by
  unfold fX2_clearGain clG
  refine for_up0 (fun n i s => fX2_clearGain_L2 n (nI i) s) 66 (fun i s => sA s 9 (0 + i) 0) some ?_ ?_ fu z (fu_big (by omega))
  · intro n i s hi
    show fX2_clearGain_L2 (n + 1) (nI i) s = fX2_clearGain_L2 n (nI (i + 1)) _
    rw [fX2_clearGain_L2, if_neg (n66 hi), ckb_n hi (by decide), inc_n, nI_clamp (by omega), Nat.zero_add]
  · intro n s
    show fX2_clearGain_L2 (n + 1) (nI 66) s = some s
    rw [fX2_clearGain_L2, if_pos (show (66 : Int32) ≤ nI 66 by decide)]
def wgA (w : Int32) (z : SS) : SS := lp 6 (fun i s => sA s 10 (0 + i) w) z
theorem wgA_f (w : Int32) (z : SS) : (wgA w z).1 = z.1 ∧ (∀ j, j ≠ 10 → (wgA w z).2 j = z.2 j) ∧ ∀ j, j < 6 → (wgA w z).2 10 j = w := by
  obtain ⟨h1, h2, h3⟩ := lpA 10 0 6 (fun _ => w) z
  refine ⟨h1, h2, fun p hp => ?_⟩
  have := h3 p
  rw [if_pos (by omega)] at this
  exact this
theorem weigh_c (z : SS) (w : Int32) : fX2_weighAll z w = some (wgA w z) := by
  unfold fX2_weighAll wgA
  refine for_up0 (fun n i s => fX2_weighAll_L2 w n (nI i) s) 6 (fun i s => sA s 10 (0 + i) w) some ?_ ?_ fu z (fu_big (by omega))
  · intro n i s hi
    show fX2_weighAll_L2 w (n + 1) (nI i) s = fX2_weighAll_L2 w n (nI (i + 1)) _
    rw [fX2_weighAll_L2, if_neg (n6 hi), ckb_n hi (by decide), inc_n, nI_clamp (by omega), Nat.zero_add]
  · intro n s
    show fX2_weighAll_L2 w (n + 1) (nI 6) s = some s
    rw [fX2_weighAll_L2, if_pos (show (6 : Int32) ≤ nI 6 by decide)]
/-- rows of gain, in part filled -/
def GR (c z : SS) (B : Nat) (f : Nat → Nat → Int) (y : SS) : Prop := y.1 = z.1 ∧ (∀ j, j ≠ 9 → y.2 j = z.2 j) ∧ ∀ s d, s < 6 → d ≤ B → y.2 9 (s * 11 + d) = iI (f s d)
theorem wantG_in {c z : SS} (hW : WOK c) (hz : PC c z) (h8 : ∀ p, p < 8 → z.2 8 p = ndv c (bt (c.1 2)) p) (who : Int32) {B i : Nat} (hB : B ≤ 10) (hi : i < 8) {f : Nat → Nat → Int} {y : SS} (hy : GR c z B f y) (K : SS → Option SS) : ∃ y2, GR c z B (fun s d => f s d + (if va c i = s then pv c i (rq c i d) else 0)) y2 ∧ fX2_wantGood_L38 K who (nI B) (nI i) (nI (va c i * 11)) fu 0 y = K y2 := by
  obtain ⟨⟨g1, g2, g3⟩, -⟩ := hW.2.2.2.2.2.2.2.2 i hi
  have hh := for_inv (fun n d (q : SS) => fX2_wantGood_L38 K who (nI B) (nI i) (nI (va c i * 11)) n (nI d) q) (B + 1) K (fun d q => GR c z B (fun s d2 => f s d2 + (if va c i = s ∧ d2 < d then pv c i (rq c i d2) else 0)) q) ?_ ?_ fu y (fu_big (by omega)) ?_
  · obtain ⟨y2, ⟨h1, h2, h3⟩, e⟩ := hh
    refine ⟨y2, ⟨h1, h2, fun s d hs hd => ?_⟩, e⟩
    rw [h3 s d hs hd]
    dsimp only
    by_cases e1 : va c i = s
    · rw [if_pos ⟨e1, by omega⟩, if_pos e1]
    · rw [if_neg (fun q => e1 q.1), if_neg e1]
  · intro n d q hd ⟨h1, h2, h3⟩
    show ∃ q2, _ ∧ fX2_wantGood_L38 K who (nI B) (nI i) (nI (va c i * 11)) (n + 1) (nI d) q = fX2_wantGood_L38 K who (nI B) (nI i) (nI (va c i * 11)) n (nI (d + 1)) q2
    refine ⟨sA q 9 (va c i * 11 + d) (q.2 9 (va c i * 11 + d) + iI (pv c i (rq c i d))), ⟨h1, fun j hj => by rw [sA_2, if_neg hj]; exact h2 j hj, fun s d2 hs hd2 => ?_⟩, ?_⟩
    · rw [sA_2, if_pos rfl, upd_e]
      by_cases e : s * 11 + d2 = va c i * 11 + d
      · have e1 : va c i = s := by omega
        have e2 : d2 = d := by omega
        subst e2
        rw [if_pos e, ← e, h3 s d2 hs hd2]
        dsimp only
        rw [if_neg (fun z => absurd z.2 (by omega)), if_pos ⟨e1, by omega⟩, iI_add, Int.add_zero]
      · rw [if_neg e, h3 s d2 hs hd2]
        dsimp only
        by_cases e1 : va c i = s ∧ d2 < d
        · rw [if_pos e1, if_pos ⟨e1.1, by omega⟩]
        · rw [if_neg e1, if_neg (fun z => by
            by_cases e3 : d2 = d
            · exact e (by rw [z.1, e3])
            · exact e1 ⟨z.1, by omega⟩)]
    · have h8' := h8 i hi
      rw [fX2_wantGood_L38, if_neg (fun q => by have := (nI_ltI (by omega) (by omega)).mp q; omega), if_neg (n11 (by omega)), nI_add, ald_n (by omega) (by decide), ald_n hi (by decide), h2 8 (by omega), h8', jn_e, inc_n, nI_clamp (by omega)]
      simp only [ald_n hi (show 8 < 2 ^ 31 by decide), ckb_n (show va c i * 11 + d < 66 by omega) (show 66 < 2 ^ 31 by decide), h2 5 (show 5 ≠ 9 by omega), h2 4 (show 4 ≠ 9 by omega), hz.2 5 (by omega), hz.2 4 (by omega)]
      have hq := need_q hW (p := i) (d := d) hi (by omega)
      cases e : rq c i d with
      | true =>
        rw [if_neg (fun z => by have := hq.mp z; rw [e] at this; cases this), show pv c i true = (c.2 4 i).toInt from rfl, ← iI_of (x := c.2 4 i) rfl]
      | false => rw [if_pos (hq.mpr e), show pv c i false = (c.2 5 i).toInt from rfl, ← iI_of (x := c.2 5 i) rfl]
  · intro n q hq
    show fX2_wantGood_L38 K who (nI B) (nI i) (nI (va c i * 11)) (n + 1) (nI (B + 1)) q = K q
    rw [fX2_wantGood_L38, if_pos (nI_lt (by omega) (by omega))]
  · refine ⟨hy.1, hy.2.1, fun s d hs hd => ?_⟩
    rw [hy.2.2 s d hs hd]
    dsimp only
    rw [if_neg (fun z => absurd z.2 (by omega)), Int.add_zero]
theorem wantGood_c {c z : SS} (hW : WOK c) (hz : PC c z) (h8 : ∀ p, p < 8 → z.2 8 p = ndv c (bt (c.1 2)) p) (who : Int32) {B : Nat} (hB : B ≤ 10) : ∃ y, fX2_wantGood z who (nI B) = some y ∧ GR c z B (gG c (bt who)) y := by
  obtain ⟨k1, k2, k3⟩ := clG_f z
  unfold fX2_wantGood
  rw [clearG_c, Option.bind_some]
  have hh := for_inv (fun n i (q : SS) => fX2_wantGood_L6 who (nI B) n (nI i) q) 8 some (fun i q => GR c z B (gGn c (bt who) i) q) ?_ ?_ fu (clG z) (fu_big (by omega)) ⟨k1, k2, fun s d hs hd => by rw [k3 _ (by omega)]; rfl⟩
  · obtain ⟨y, y1, y2⟩ := hh
    exact ⟨y, y2, y1⟩
  · intro n i q hi hq
    show ∃ q2, _ ∧ fX2_wantGood_L6 who (nI B) (n + 1) (nI i) q = fX2_wantGood_L6 who (nI B) n (nI (i + 1)) q2
    rw [fX2_wantGood_L6, if_neg (n8 hi), jn_e, inc_n]
    obtain ⟨⟨g1, g2, g3⟩, -⟩ := hW.2.2.2.2.2.2.2.2 i hi
    cases e : bt who i with
    | true =>
      rw [if_pos ((tb1 who (by omega)).mpr e), ald_n hi (by decide), hq.2.1 2 (by omega), hz.2 2 (by omega), g1, nI_m11]
      obtain ⟨y2, a1, a2⟩ := wantG_in hW hz h8 who hB hi hq (fun c15 => fX2_wantGood_L6 who (nI B) n (nI (i + 1)) c15)
      refine ⟨y2, ?_, a2⟩
      have : gGn c (bt who) (i + 1) = fun s d => gGn c (bt who) i s d + (if va c i = s then pv c i (rq c i d) else 0) := by
        funext s d
        unfold gGn
        rw [sm_s, e]
        rfl
      rw [this]
      exact a1
    | false =>
      rw [if_neg (fun z => by have := (tb1 who (show i < 32 by omega)).mp z; rw [e] at this; cases this)]
      refine ⟨q, ?_, rfl⟩
      have : gGn c (bt who) (i + 1) = gGn c (bt who) i := by
        funext s d
        unfold gGn
        rw [sm_s, e]
        show _ + (if va c i = s then (0 : Int) else 0) = _
        rw [ite_self, Int.add_zero]
      rw [this]
      exact hq
  · intro n q hq
    show fX2_wantGood_L6 who (nI B) (n + 1) (nI 8) q = some q
    rw [fX2_wantGood_L6, if_pos (show (8 : Int32) ≤ nI 8 by decide)]
/-- the planner's picks -/
def PK (tm : Nat → Nat → Nat → Int) (c : SS) (B : Nat) (y : SS) : Prop := ∀ k, k < vn c → ∀ u, u ≤ B → y.2 12 ((vn c - (k + 1)) * 11 + u) = nI (dK tm (bt (c.1 2)) (vE c) B (vn c) k u)
theorem mostGood_c {c z : SS} (hW : WOK c) (hz : PC c z) {B : Nat} (hB : B ≤ 10) : ∃ y, fX6_mostGood z (nI B) = some (iI (dV (tmG (gG c (bt (c.1 5))) (fun _ => 0)) (bt (c.1 2)) (vE c) B (vn c) (vn c) 0), y) ∧ PC c y ∧ PK (tmG (gG c (bt (c.1 5))) (fun _ => 0)) c B y := by
  obtain ⟨⟨n1, n2, n3⟩, -, -, ⟨e1, e2⟩, -⟩ := id hW
  obtain ⟨y1, a1, a2, a3⟩ := meas_c hW hz
  unfold fX6_mostGood
  rw [hz.1, a1, Option.bind_some, a2.1]
  obtain ⟨y2, b1, b2, b3, b4⟩ := wantGood_c hW a2 a3 (c.1 5) hB
  rw [b1, Option.bind_some, weigh_c, Option.bind_some]
  obtain ⟨w1, w2, w3⟩ := wgA_f 0 y2
  obtain ⟨y4, d1, d2, d3, d4⟩ := solve_c (z := wgA 0 y2) (sh := c.1 2) (E := vE c) (B := B) (n := vn c) (G := gG c (bt (c.1 5))) (w := fun _ => 0) n2 n3 hB e2 (by rw [w1, b2, a2.1]; exact n1) (by rw [w1, b2, a2.1]) (by rw [w1, b2, a2.1]; exact e1) (fun s d => by have := gG_bd hW (bt (c.1 5)) s d; omega) (fun _ => by omega) (fun s d hs hd => by rw [w2 9 (by omega)]; exact b4 s d (by omega) hd) (fun s hs => by rw [w3 s (by omega)]; rfl)
  rw [d1, Option.bind_some]
  refine ⟨y4, rfl, ?_, d4⟩
  exact a2.of (by rw [d2, w1, b2]) (fun j hj => by rw [d3 j (by omega) (by omega), w2 j (by omega), b3 j (by omega)])
