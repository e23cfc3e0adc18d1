/-! held -/
def hK (p1 p2 : Int32) (x25 x26 x27 x28 : Int32) (c29 : SS) : Option (Int32 × SS) := jn (fun (_ : Unit) => if x25 = (0 : Int32) then some ((-6 : Int32), c29) else if p1 = (-1 : Int32) then some (x26, c29) else if p2 = (0 : Int32) then some (x27, c29) else some (x28, c29)) (fun j175 => if p1 = (-1 : Int32) then if p2 = (0 : Int32) then some (x25, c29) else j175 () else j175 ())
theorem heldm_u {m : SS} {p1 p2 a : Int32} (h1 : p1 = -1 ∨ ¬ fX7_isStop m p1 = 0) (h2 : ¬ fX7_in p2.toInt64 0 1 = 0) (ha : a = if 0 ≤ p1 then p1 else 0) : fX7_held m p1 p2 = fX7_held_L60 (hK p1 p2) p1 p2 a fu 0 1000000 1000000 (-6) 1 (noH m) := by
  unfold fX7_held
  rw [jn_e, if_neg h2, noHold_m, Option.bind_some, jn_e, ha]
  have e : ∀ (x y : Option (Int32 × SS)), (if p1 = -1 then x else if fX7_isStop m p1 = 0 then y else x) = x := by
    intro x y
    by_cases q : p1 = -1
    · rw [if_pos q]
    · rw [if_neg q, if_neg (h1.resolve_left q)]
  rw [e]
  by_cases q : 0 ≤ p1
  · rw [if_pos q, if_pos q]
    rfl
  · rw [if_neg q, if_neg q]
    rfl
/-- the planner with sets, from any state of the class -/
theorem sets_y {c y : SS} (hW : WOK c) (hy : PC c y) (ri wa : Int32) : ∃ y1 y2, fX4_measure y (c.1 2) = some y1 ∧ PC c y1 ∧ fX2_wantSets y1 ri wa = some y2 ∧ PC c y2 ∧ ∀ s d, s < 6 → d ≤ 10 → y2.2 9 (s * 11 + d) = iI (gS c ri wa s d) := by
  obtain ⟨y1, a1, a2, a3⟩ := meas_c hW hy
  obtain ⟨y2, f1, f2, f3, f4⟩ := wantSets_c hW a2 a3 ri wa
  exact ⟨y1, y2, a1, a2, f1, a2.of f2 (fun j hj => f3 j (by omega)), f4⟩
theorem solve_y {c z : SS} (hW : WOK c) (hz : PC c z) {ri wa : Int32} {w : Nat → Int} (hw : ∀ s, -1 ≤ w s ∧ w s ≤ 1) (z9 : ∀ s d, s < 6 → d ≤ 10 → z.2 9 (s * 11 + d) = iI (gS c ri wa s d)) (z10 : ∀ s, s < vn c → z.2 10 s = iI (w s)) : ∃ y, fX2_solve z (c.1 3) = some (iI (dV (tmG (gS c ri wa) w) (bt (c.1 2)) (vE c) (vB c) (vn c) (vn c) 0), y) ∧ PC c y ∧ PK (tmG (gS c ri wa) w) c (vB c) y ∧ (-6000060 ≤ dV (tmG (gS c ri wa) w) (bt (c.1 2)) (vE c) (vB c) (vn c) (vn c) 0 ∧ dV (tmG (gS c ri wa) w) (bt (c.1 2)) (vE c) (vB c) (vn c) (vn c) 0 ≤ 6000060) := by
  obtain ⟨⟨n1, n2, n3⟩, -, ⟨b1, b2⟩, ⟨e1, e2⟩, -⟩ := id hW
  obtain ⟨y4, d1, d2, d3, d4⟩ := solve_c (z := z) (sh := c.1 2) (E := vE c) (B := vB c) (n := vn c) (G := gS c ri wa) (w := w) n2 n3 (by omega) e2 (by rw [hz.1]; exact n1) (by rw [hz.1]) (by rw [hz.1]; exact e1) (gS_bd c ri wa) hw (fun s d hs hd => z9 s d (by omega) (by omega)) z10
  rw [b1]
  have hb := dV_bd (gS_bd c ri wa) hw (cl := bt (c.1 2)) (E := vE c) (B := vB c) (n := vn c) e2 (vn c) 0
  refine ⟨y4, d1, hz.of d2 (fun j hj => d3 j (by omega) (by omega)), d4, ?_⟩
  omega
theorem fewB_c {c y : SS} (hW : WOK c) (hy : PC c y) (ri wa : Int32) : ∃ y4, fX6_fewestBreaths y ri wa = (if (-500000 : Int32) < iI (dS c ri wa) then some (-(iI (dS c ri wa)), y4) else some (-6, y4)) ∧ PC c y4 ∧ -6000060 ≤ dS c ri wa ∧ dS c ri wa ≤ 6000060 := by
  obtain ⟨y1, y2, a1, a2, f1, f2, f3⟩ := sets_y hW hy ri wa
  obtain ⟨w1, w2, w3⟩ := wgA_f (-1) y2
  have n3 := hW.1.2.2
  obtain ⟨y4, d1, d2, d3, d4⟩ := solve_y hW (f2.of w1 (fun j hj => w2 j (by omega))) (ri := ri) (wa := wa) (w := fun _ => -1) (fun _ => by omega) (fun s d hs hd => by rw [w2 9 (by omega)]; exact f3 s d hs hd) (fun s hs => by rw [w3 s (by omega)]; rfl)
  refine ⟨y4, ?_, d2, d4⟩
  unfold fX6_fewestBreaths
  rw [hy.1, a1, Option.bind_some, f1, Option.bind_some, weigh_c, Option.bind_some, w1, f2.1, d1, Option.bind_some]
  rfl
def wAt (k : Nat) (v : Int) (s : Nat) : Int := if k = s then v else 0
theorem wAt_sm {k n : Nat} (hk : k < n) (v : Int) (h : Nat → Nat) : sm n (fun s => wAt k v s * (h s : Int)) = v * (h k : Int) := by
  have : sm n (fun s => wAt k v s * (h s : Int)) = sm n (fun s => if k = s then v * (h s : Int) else 0) := sm_cg n (fun s _ => by
    unfold wAt
    by_cases e : k = s
    · rw [if_pos e, if_pos e]
    · rw [if_neg e, if_neg e, Int.zero_mul])
  rw [this, sm_pick k (fun s => v * (h s : Int)) n, if_pos hk]
theorem e500 {D : Int} (h1 : -6000060 ≤ D) (h2 : D ≤ 6000060) : ((-500000 : Int32) < iI D) ↔ -500000 < D := by
  rw [i32_lt, show (-500000 : Int32) = iI (-500000) from rfl, iI_ti (by omega) (by omega), iI_ti (by omega) (by omega)]
theorem heldc_at {c : SS} (hW : WOK c) {k : Nat} (hk : k < vn c) {p2 : Int32} (h2 : ¬ fX6_within p2 0 1 = 0) (v : Int) (hv : v = if p2 = 0 then -1 else 1) : ∃ y, fX6_held c (nI k) p2 = (if (-500000 : Int32) < iI (dV (tmG (gS c (c.1 7) (c.1 8)) (wAt k v)) (bt (c.1 2)) (vE c) (vB c) (vn c) (vn c) 0) then some (nI (pl (tmG (gS c (c.1 7) (c.1 8)) (wAt k v)) (bt (c.1 2)) (vE c) (vB c) (vn c) (vn c) (fun _ => 0) k), y) else some (-6, y)) ∧ PC c y ∧ -6000060 ≤ dV (tmG (gS c (c.1 7) (c.1 8)) (wAt k v)) (bt (c.1 2)) (vE c) (vB c) (vn c) (vn c) 0 ∧ dV (tmG (gS c (c.1 7) (c.1 8)) (wAt k v)) (bt (c.1 2)) (vE c) (vB c) (vn c) (vn c) 0 ≤ 6000060 := by
  have n3 := hW.1.2.2
  have b2 := hW.2.2.1.2
  obtain ⟨y1, y2, a1, a2, f1, f2, f3⟩ := sets_y hW (PC.rf c) (c.1 7) (c.1 8)
  obtain ⟨w1, w2, w3⟩ := wgA_f 0 y2
  have hvb : v = -1 ∨ v = 1 := by rw [hv]; split <;> omega
  have hz : PC c (sA (wgA 0 y2) 10 k (iI v)) := f2.of w1 (fun j hj => by rw [sA_2, if_neg (by omega)]; exact w2 j (by omega))
  obtain ⟨y4, d1, d2, d3, d4⟩ := solve_y hW hz (ri := c.1 7) (wa := c.1 8) (w := wAt k v) (fun s => by unfold wAt; split <;> omega) (fun s d hs hd => by rw [sA_2, if_neg (by omega), w2 9 (by omega)]; exact f3 s d hs hd) (fun s hs => by
    rw [sA_2, if_pos rfl, upd_e]
    unfold wAt
    by_cases e : k = s
    · rw [if_pos e.symm, if_pos e]
    · rw [if_neg (fun q => e q.symm), if_neg e, w3 s (by omega)]; rfl)
  refine ⟨y4, ?_, d2, d4⟩
  have hm1 : ¬ nI k = -1 := by
    intro q
    have := congrArg Int32.toInt q
    rw [nI_ti (by omega), show (-1 : Int32).toInt = -1 from rfl] at this
    omega
  have hs : ¬ fX6_isStopOrAll c (nI k) = 0 := fun q => (stopAll_c hW (nI k)).mp q (Or.inr (by rw [nI_ti (by omega)]; omega))
  have hx : (if p2 = 0 then (-1 : Int32) else 1) = iI v := by
    rw [hv]
    split <;> rfl
  unfold fX6_held
  rw [if_neg hs, if_neg h2, jn_e, if_neg hm1, a1, Option.bind_some, a2.1, f1, Option.bind_some, if_neg hm1, weigh_c, Option.bind_some, jn_e, w1, f2.1, nI_clamp (by omega)]
  have hj : ∀ x : Int32, x = iI v → (ckb 6 (nI k) (Option.bind (fX2_solve (sA (wgA 0 y2) 10 k x) (c.1 3)) (fun q9 => if (-500000 : Int32) < q9.1 then Option.bind (fX2_breathsAt q9.2 (nI k)) (fun q11 => some (q11, q9.2)) else some ((-6 : Int32), q9.2)))) = (if (-500000 : Int32) < iI (dV (tmG (gS c (c.1 7) (c.1 8)) (wAt k v)) (bt (c.1 2)) (vE c) (vB c) (vn c) (vn c) 0) then some (nI (pl (tmG (gS c (c.1 7) (c.1 8)) (wAt k v)) (bt (c.1 2)) (vE c) (vB c) (vn c) (vn c) (fun _ => 0) k), y4) else some (-6, y4)) := by
    intro x hx
    rw [hx, ckb_n (by omega) (by decide), d1, Option.bind_some, breaths_c n3 (by omega) hk d3, Option.bind_some]
  by_cases q : p2 = 0
  · rw [if_pos q] at hx ⊢
    exact hj _ hx
  · rw [if_neg q] at hx ⊢
    exact hj _ hx
theorem ok_held : OK_held Inv := by
  intro c m i0 i1 p1 p2 h
  obtain ⟨hW, hR, hP, hi0, hi1, hX⟩ := id h
  obtain ⟨⟨n1, n2, n3⟩, -, ⟨b1, b2⟩, ⟨e1, e2⟩, -⟩ := id hW
  have hs : SB c (c.1 7) := fun p hp hb => (hR.2.2.2.2.2.2.2.2.2 p hp).2.2 hb
  have w1 : (fX6_within p2 0 1 = 0) ↔ ¬ (0 ≤ p2.toInt ∧ p2.toInt ≤ 1) := by rw [win, ite0]; rfl
  have w2 : (fX7_in p2.toInt64 0 1 = 0) ↔ ¬ (0 ≤ p2.toInt ∧ p2.toInt ≤ 1) := by rw [lin, ite0]; rfl
  obtain ⟨-, hcb⟩ := cnt_eq hW (ri := c.1 7) (wa := c.1 8) hs
  by_cases hst : p1 = -1 ∨ (0 ≤ p1.toInt ∧ p1.toInt < vn c)
  · have hsc : ¬ fX6_isStopOrAll c p1 = 0 := fun q => (stopAll_c hW p1).mp q hst
    have hsm : p1 = -1 ∨ ¬ fX7_isStop m p1 = 0 := hst.imp id (fun q => by rw [stop_m hW hR, if_pos q]; decide)
    by_cases hw : 0 ≤ p2.toInt ∧ p2.toInt ≤ 1
    · have hp2 : p2 = 0 ∨ p2 = 1 := by
        have : p2.toInt = 0 ∨ p2.toInt = 1 := by omega
        rcases this with q | q
        · exact Or.inl (Int32.toInt_inj.mp q)
        · exact Or.inr (Int32.toInt_inj.mp q)
      rcases hst with hm1 | hst
      · -- all stops together
        rw [heldm_u (a := nI 0) hsm (fun q => w2.mp q hw) (by rw [hm1]; rfl)]
        obtain ⟨z2, z3, z4⟩ := held_m hW hR (at_ := 0) (by omega) p1 p2 (hK p1 p2)
        rw [z3]
        have hpsm : ∀ g, VH (bt (c.1 2)) (vE c) (vB c) (vn c) g → sm (vn c) (fun s => (-1) * (g s : Int)) = -((psm g (vn c) : Nat) : Int) ∧ -10 ≤ -((psm g (vn c) : Nat) : Int) ∧ -((psm g (vn c) : Nat) : Int) ≤ 10 := fun g hg => by
          have := hg.2.2.2
          exact ⟨sm_neg g (vn c), by omega, by omega⟩
        obtain ⟨g1, g2⟩ := held_gen hW hs 0 (fun _ => -1) (fun g => -((psm g (vn c) : Nat) : Int)) hpsm (fun a => a.2.1) (fun g x => if x ≤ nI (psm g (vn c)) then x else nI (psm g (vn c))) 1000000 rfl (fun g a hso => by unfold FH; rw [if_pos hso]) (fun v => iI (-v)) (fun g hg => by
            have := hg.2.2.2
            rw [if_neg, Int.neg_neg, nI_iI]
            rw [i32_le, nI_ti (by omega), show (1000000 : Int32).toInt = 1000000 from rfl]
            omega) (fun g v hg v1 v2 => by
            have := hg.2.2.2
            rw [Int.neg_neg, nI_iI]
            by_cases q : -((psm g (vn c) : Nat) : Int) ≤ v
            · rw [if_pos ((iI_le (by omega) (by omega) (by omega) (by omega)).mpr (by omega)), if_pos q]
            · rw [if_neg (fun z => q (by have := (iI_le (by omega) (by omega) (by omega) (by omega)).mp z; omega)), if_neg q])
        rcases hp2 with rfl | rfl
        · -- how many
          obtain ⟨y1, y2, a1, a2, f1, f2, f3⟩ := sets_y hW (PC.rf c) (c.1 7) (c.1 8)
          obtain ⟨y3, d1, d2, d3⟩ := count_c (z := y2) (sh := c.1 2) (E := vE c) (B := vB c) (n := vn c) (ok := okS c (c.1 7) (c.1 8)) n2 n3 (by omega) e2 (by rw [f2.1]; exact n1) (by rw [f2.1]) (by rw [f2.1]; exact e1) (fun s d hs hd => by
            rw [f3 s d (by omega) (by omega)]
            unfold gS okS
            cases badN c (c.1 7) (c.1 8) 8 s d with
            | true =>
              constructor
              · intro q; exact absurd q (by decide)
              · intro q; exact absurd q (by decide)
            | false => exact ⟨fun _ => rfl, fun _ => rfl⟩)
          refine ⟨nI (cC c (c.1 7) (c.1 8)), y3, z2, ?_, ?_, Inv_of h (f2.of d2 (fun j hj => d3 j (by omega))).cm (FM_ms z4)⟩
          · unfold fX6_held
            rw [if_neg hsc, if_neg (fun q => w1.mp q hw), jn_e, if_pos hm1, if_neg (show ¬ (0 : Int32) = 1 by decide), a1, Option.bind_some, a2.1, f1, Option.bind_some, if_pos hm1, f2.1, b1, d1, Option.bind_some]
            rfl
          · unfold hK
            rw [jn_e, if_pos hm1, if_pos rfl, g1]
        · -- the fewest
          obtain ⟨y4, d1, d2, d3, d4⟩ := fewB_c hW (PC.rf c) (c.1 7) (c.1 8)
          have hI2 := Inv_of h d2.cm (FM_ms z4)
          have hcl : fX6_held c p1 1 = Option.bind (fX6_fewestBreaths c (c.1 7) (c.1 8)) (fun q16 => some (q16.1, q16.2)) := by
            unfold fX6_held
            rw [if_neg hsc, if_neg (fun q => w1.mp q hw), jn_e, if_pos hm1, if_pos rfl]
          rw [hcl, d1]
          unfold hK
          rw [jn_e, if_pos hm1, if_neg (show ¬ (1 : Int32) = 0 by decide), g1]
          have g2' : (cC c (c.1 7) (c.1 8) = 0 ∧ dS c (c.1 7) (c.1 8) ≤ -500000) ∨ (0 < cC c (c.1 7) (c.1 8) ∧ -10 ≤ dS c (c.1 7) (c.1 8) ∧ dS c (c.1 7) (c.1 8) ≤ 10 ∧ (hvV c 0).2.1 = iI (-(dS c (c.1 7) (c.1 8))) ∧ _) := g2
          rcases g2' with ⟨q1, q2⟩ | ⟨q1, q2, q3, q4, -⟩
          · rw [if_neg (fun q => by have := (e500 d3 d4).mp q; omega), q1, if_pos (show nI 0 = 0 from rfl)]
            exact ⟨_, _, _, rfl, rfl, hI2⟩
          · rw [if_pos ((e500 d3 d4).mpr (by omega)), if_neg (nI_ne0 (by omega) (by omega)), if_pos hm1, q4, iI_neg]
            exact ⟨_, _, _, rfl, rfl, hI2⟩
      · -- at a stop
        obtain ⟨k, k1, rfl, k3⟩ := nI_back hst.1
        have hk : k < vn c := by omega
        have hm1 : ¬ nI k = -1 := by
          intro q
          have := congrArg Int32.toInt q
          rw [nI_ti (by omega), show (-1 : Int32).toInt = -1 from rfl] at this
          omega
        rw [heldm_u (a := nI k) hsm (fun q => w2.mp q hw) (by rw [if_pos (show (0 : Int32) ≤ nI k from nI_le (a := 0) (Nat.zero_le k) (by omega))])]
        obtain ⟨z2, z3, z4⟩ := held_m hW hR (at_ := k) (by omega) (nI k) p2 (hK (nI k) p2)
        rw [z3]
        unfold hK
        rw [jn_e, if_neg hm1, if_neg hm1]
        rcases hp2 with rfl | rfl
        · obtain ⟨y, y1, y2, y3, y4⟩ := heldc_at hW hk (p2 := 0) (fun q => w1.mp q hw) (-1) rfl
          have hI2 := Inv_of h y2.cm (FM_ms z4)
          obtain ⟨g1, g2⟩ := held_gen hW hs k (wAt k (-1)) (fun g => -(g k : Int)) (fun g hg => by
              have := hg.1 k
              rw [wAt_sm hk]
              exact ⟨by omega, by omega, by omega⟩) (fun a => a.2.2.1) (fun g x => if x ≤ nI (g k) then x else nI (g k)) 1000000 rfl (fun g a hso => by unfold FH; rw [if_pos hso]) (fun v => iI (-v)) (fun g hg => by
              have := hg.1 k
              rw [if_neg, Int.neg_neg, nI_iI]
              rw [i32_le, nI_ti (by omega), show (1000000 : Int32).toInt = 1000000 from rfl]
              omega) (fun g v hg v1 v2 => by
              have := hg.1 k
              rw [Int.neg_neg, nI_iI]
              by_cases q : -(g k : Int) ≤ v
              · rw [if_pos ((iI_le (by omega) (by omega) (by omega) (by omega)).mpr (by omega)), if_pos q]
              · rw [if_neg (fun z => q (by have := (iI_le (by omega) (by omega) (by omega) (by omega)).mp z; omega)), if_neg q])
          rw [y1, g1]
          rcases g2 with ⟨q1, q2⟩ | ⟨q1, q2, q3, q4, q5⟩
          · rw [if_neg (fun q => by have := (e500 y3 y4).mp q; omega), q1, if_pos (show nI 0 = 0 from rfl)]
            exact ⟨_, _, _, rfl, rfl, hI2⟩
          · have q4' : (hvV c k).2.2.1 = iI (-_) := q4
            rw [if_pos ((e500 y3 y4).mpr (by omega)), if_neg (nI_ne0 (by omega) (by omega)), if_pos rfl, q4', ← q5]
            dsimp only
            rw [Int.neg_neg, ← nI_iI]
            exact ⟨_, _, _, rfl, rfl, hI2⟩
        · obtain ⟨y, y1, y2, y3, y4⟩ := heldc_at hW hk (p2 := 1) (fun q => w1.mp q hw) 1 rfl
          have hI2 := Inv_of h y2.cm (FM_ms z4)
          obtain ⟨g1, g2⟩ := held_gen hW hs k (wAt k 1) (fun g => (g k : Int)) (fun g hg => by
              have := hg.1 k
              rw [wAt_sm hk]
              exact ⟨by omega, by omega, by omega⟩) (fun a => a.2.2.2) (fun g x => if nI (g k) ≤ x then x else nI (g k)) (-6) rfl (fun g a hso => by unfold FH; rw [if_pos hso]) (fun v => iI v) (fun g hg => by
              have := hg.1 k
              rw [if_neg, nI_iI]
              rw [i32_le, nI_ti (by omega), show (-6 : Int32).toInt = -6 from rfl]
              omega) (fun g v hg v1 v2 => by
              have := hg.1 k
              rw [nI_iI]
              by_cases q : (g k : Int) ≤ v
              · rw [if_pos ((iI_le (by omega) (by omega) (by omega) (by omega)).mpr (by omega)), if_pos q]
              · rw [if_neg (fun z => q (by have := (iI_le (by omega) (by omega) (by omega) (by omega)).mp z; omega)), if_neg q])
          rw [y1, g1]
          rcases g2 with ⟨q1, q2⟩ | ⟨q1, q2, q3, q4, q5⟩
          · rw [if_neg (fun q => by have := (e500 y3 y4).mp q; omega), q1, if_pos (show nI 0 = 0 from rfl)]
            exact ⟨_, _, _, rfl, rfl, hI2⟩
          · have q4' : (hvV c k).2.2.2 = iI _ := q4
            rw [if_pos ((e500 y3 y4).mpr (by omega)), if_neg (nI_ne0 (by omega) (by omega)), if_neg (show ¬ (1 : Int32) = 0 by decide), q4', ← q5]
            dsimp only
            rw [← nI_iI]
            exact ⟨_, _, _, rfl, rfl, hI2⟩
    · unfold fX6_held fX7_held
      have e : ∀ (x y : Option (Int32 × SS)), (if p1 = -1 then x else if fX7_isStop m p1 = 0 then y else x) = x := by
        intro x y
        by_cases q : p1 = -1
        · rw [if_pos q]
        · rw [if_neg q, if_neg (hsm.resolve_left q)]
      rw [if_neg hsc, if_pos (w1.mpr hw), jn_e, if_pos (w2.mpr hw), e]
      exact ⟨_, _, _, rfl, rfl, h⟩
  · have h1 : ¬ p1 = -1 := fun q => hst (Or.inl q)
    have h2 : ¬ (0 ≤ p1.toInt ∧ p1.toInt < vn c) := fun q => hst (Or.inr q)
    unfold fX6_held fX7_held
    rw [if_pos ((stopAll_c hW p1).mpr hst), jn_e, if_neg h1, stop_m hW hR, if_neg h2, if_pos rfl]
    exact ⟨_, _, _, rfl, rfl, h⟩
