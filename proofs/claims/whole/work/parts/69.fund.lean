/-! fund -/
theorem oA_bd {c : SS} (hW : WOK c) (B m : Nat) {j : Nat} (hj : j ≤ 7) (l : Nat) : -3024 ≤ oW (aN c) B m j l ∧ oW (aN c) B m j l ≤ 3024 := by
  have := oW_bd (f := aN c) (b := 432) (B := B) (m := m) (fun k u _ => (aN_bd hW k u).2) (fun k => (aN_bd hW k 0).1) j l
  omega
theorem nightM {c m z : SS} (hW : WOK c) (hR : WR c m) (hz : FN m z) {M j : Nat} (hM : M ≤ 7) (hj : j < M) (hd : ER (aN c) (vB c) M j z) (a1 a3 : Int32) (K : SS → Option (Int32 × SS)) : ∃ y, FN m y ∧ ER (aN c) (vB c) M (j + 1) y ∧ fX7_fund_L84 (fun c12 => fX7_fund_L127 K a1 a3 (nI (M - (j + 1))) fu 0 c12) a1 a3 (nI (M - (j + 1))) fu 0 z = K y := by
  obtain ⟨-, -, ⟨b1, b2⟩, -⟩ := id hW
  obtain ⟨k, hk⟩ : ∃ k, k = M - (j + 1) := ⟨_, rfl⟩
  have hkj : M - j = k + 1 := by omega
  obtain ⟨d1, d2⟩ := hd
  rw [← hk]
  obtain ⟨y2, s1, s2, s3, s4, s5⟩ := byU_m hW hR hz (k := k) (by omega) a1 a3 (fun c12 => fX7_fund_L127 K a1 a3 (nI k) fu 0 c12)
  rw [s5]
  have r22 : ∀ j', j' < j + 1 → ∀ d, d ≤ vB c → y2.2 22 (10 * (M - (j' + 1)) + d) = iI (aN c (M - (j' + 1)) d) := fun j' hj' d hd => by
    by_cases e : j' = j
    · subst e; rw [← hk]; exact s3 d hd
    · rw [s4 _ (by omega)]; exact d1 j' (by omega) d hd
  have r23 : ∀ j', j' ≤ j → ∀ l, l ≤ 40 → y2.2 23 (41 * (M - j') + l) = iI (oW (aN c) (vB c) M j' l) := fun j' hj' l hl => by
    rw [s2]; exact d2 j' hj' l hl
  have hh := for_inv (fun n i (q : SS) => fX7_fund_L127 K a1 a3 (nI k) n (nI i) q) 41 K (fun i q => FN m q ∧ q.2 22 = y2.2 22 ∧ (∀ j', j' ≤ j → ∀ l, l ≤ 40 → q.2 23 (41 * (M - j') + l) = iI (oW (aN c) (vB c) M j' l)) ∧ ∀ l, l < i → q.2 23 (41 * k + l) = iI (oW (aN c) (vB c) M (j + 1) l)) ?_ ?_ fu y2 (fu_big (by omega)) ⟨s1, rfl, r23, fun l hl => absurd hl (by omega)⟩
  · obtain ⟨y, ⟨g1, g2, g3, g4⟩, e⟩ := hh
    refine ⟨y, g1, ⟨fun j' hj' d hd => by rw [g2]; exact r22 j' hj' d hd, fun j' hj' l hl => ?_⟩, e⟩
    by_cases q : j' = j + 1
    · subst q; rw [← hk]; exact g4 l (by omega)
    · exact g3 j' (by omega) l hl
  · intro n l q hl ⟨g1, g2, g3, g4⟩
    show ∃ q2, _ ∧ fX7_fund_L127 K a1 a3 (nI k) (n + 1) (nI l) q = fX7_fund_L127 K a1 a3 (nI k) n (nI (l + 1)) q2
    have hRq : WR c q := WR_of hR (CM.rf c) g1.ms
    refine ⟨sA q 23 (41 * k + l) (iI (oW (aN c) (vB c) M (j + 1) l)), ⟨⟨g1.1, fun i a b d e f => by rw [sA_2, if_neg f]; exact g1.2 i a b d e f⟩, by rw [sA_2, if_neg (by omega)]; exact g2, fun j' hj' l' hl' => ?_, fun l' hl' => ?_⟩, ?_⟩
    · rw [sA_2, if_pos rfl, upd_e, if_neg (by omega)]; exact g3 j' hj' l' hl'
    · rw [sA_2, if_pos rfl, upd_e]
      by_cases e : l' = l
      · rw [if_pos (by rw [e]), e]
      · rw [if_neg (by omega)]; exact g4 l' (by omega)
    · rw [fX7_fund_L127, if_neg (fun q => by have := (nI_ltI (a := 40) (b := l) (by omega) (by omega)).mp q; omega), hk]
      rw [one_m (c := c) (q := q) (a := aN c) (B := vB c) (m := M) (j := j) (l := l) b2 hM hj (by omega) (by rw [hRq.2.2.2.1]; exact b1) (fun d hd => by rw [g2]; exact r22 j (by omega) d hd) (fun l hl => g3 j (Nat.le_refl _) l hl) (aN_bd hW) (oA_bd hW (vB c) M (by omega))]
      rw [← hk, nI_41m, nI_add, ckb_n (by omega) (by decide), nI_clamp (by omega), inc_n]
  · intro n q hq
    show fX7_fund_L127 K a1 a3 (nI k) (n + 1) (nI 41) q = K q
    rw [fX7_fund_L127, if_pos (show (40 : Int32) < nI 41 by decide)]
theorem shareM {c m : SS} (hW : WOK c) (hR : WR c m) {M : Nat} (hM1 : 1 ≤ M) (hM : M ≤ 7) (a1 a3 : Int32) (K : SS → Option (Int32 × SS)) : ∃ y, FN m y ∧ ER (aN c) (vB c) M M y ∧ fX7_fund_L45 (fun c6 => fX7_fund_L76 K a1 a3 fu (nI M - 1) c6) a1 (nI M) a3 fu 0 m = K y := by
  have h0 := for_inv (fun k i (q : SS) => fX7_fund_L45 (fun c6 => fX7_fund_L76 K a1 a3 fu (nI M - 1) c6) a1 (nI M) a3 k (nI i) q) 41 (fun c6 => fX7_fund_L76 K a1 a3 fu (nI M - 1) c6) (fun i q => FN m q ∧ ∀ l, l < i → q.2 23 (41 * M + l) = 0) ?_ ?_ fu m (fu_big (by omega)) ⟨FN.rf m, fun d hd => absurd hd (by omega)⟩
  · obtain ⟨y0, ⟨i1, i3⟩, e0⟩ := h0
    have hh := for_inv (fun k j (q : SS) => fX7_fund_L76 K a1 a3 k (nI (M - j) - 1) q) M K (fun j q => FN m q ∧ ER (aN c) (vB c) M j q) ?_ ?_ fu y0 (fu_big (by omega)) ⟨i1, fun j' hj' => absurd hj' (by omega), fun j' hj' l hl => by
      obtain rfl : j' = 0 := by omega
      rw [Nat.sub_zero, i3 l (by omega)]
      rfl⟩
    · obtain ⟨y, ⟨g1, g3⟩, e⟩ := hh
      refine ⟨y, g1, g3, Eq.trans e0 ?_⟩
      rw [Nat.sub_zero] at e
      exact e
    · intro k j q hj ⟨g1, g3⟩
      show ∃ q2, _ ∧ fX7_fund_L76 K a1 a3 (k + 1) (nI (M - j) - 1) q = fX7_fund_L76 K a1 a3 k (nI (M - (j + 1)) - 1) q2
      have e : nI (M - j) - 1 = nI (M - (j + 1)) := by rw [show M - j = M - (j + 1) + 1 by omega]; exact nI_pred _
      obtain ⟨y, a1', a3', a4⟩ := nightM hW hR g1 hM hj g3 a1 a3 (fun c22 => fX7_fund_L76 K a1 a3 k (nI (M - (j + 1)) + (-1 : Int32)) c22)
      refine ⟨y, ⟨a1', a3'⟩, ?_⟩
      rw [fX7_fund_L76, e, if_neg (nI_pos (by omega)), Int32.sub_eq_add_neg]
      exact a4
    · intro k q hq
      show fX7_fund_L76 K a1 a3 (k + 1) (nI (M - M) - 1) q = _
      rw [Nat.sub_self, fX7_fund_L76, if_pos (show nI 0 - 1 < (0 : Int32) by decide)]
  · intro k i q hi ⟨i1, i3⟩
    show ∃ q2, _ ∧ fX7_fund_L45 _ a1 (nI M) a3 (k + 1) (nI i) q = fX7_fund_L45 _ a1 (nI M) a3 k (nI (i + 1)) q2
    refine ⟨sA q 23 (41 * M + i) 0, ⟨⟨i1.1, fun j a b d e f => by rw [sA_2, if_neg f]; exact i1.2 j a b d e f⟩, fun d hd => ?_⟩, ?_⟩
    · rw [sA_2, if_pos rfl, upd_e]
      by_cases e : d = i
      · rw [if_pos (by rw [e])]
      · rw [if_neg (by omega)]; exact i3 d (by omega)
    · rw [fX7_fund_L45, if_neg (fun q => by have := (nI_ltI (a := 40) (b := i) (by omega) (by omega)).mp q; omega), nI_41m, nI_add, ckb_n (by omega) (by decide), nI_clamp (by omega), inc_n]
  · intro k q hq
    show fX7_fund_L45 _ a1 (nI M) a3 (k + 1) (nI 41) q = _
    rw [fX7_fund_L45, if_pos (show (40 : Int32) < nI 41 by decide)]
theorem iI_inj {a b : Int} (h1 : -2147483648 ≤ a) (h2 : a < 2147483648) (h3 : -2147483648 ≤ b) (h4 : b < 2147483648) : iI a = iI b ↔ a = b := by
  constructor
  · intro h
    have := congrArg Int32.toInt h
    rw [iI_ti h1 h2, iI_ti h3 h4] at this
    exact this
  · intro h; rw [h]
theorem usedM {c y : SS} (hW : WOK c) {M j l : Nat} (hM : M ≤ 7) (hj : j < M) (hl : l ≤ 40) (hd : ER (aN c) (vB c) M M y) (a3 : Int32) (K : Int32 → Option (Int32 × SS)) : fX7_fund_L274 K y a3 (nI l) (nI (M - (j + 1))) fu 0 = K (nI (pW (xN c) (vB c) M j l)) := by
  obtain ⟨-, -, ⟨b1, b2⟩, -⟩ := id hW
  obtain ⟨p1, p2, p3⟩ := two_pick (a := aN c) (x := xN c) (B := vB c) (m := M) (fun k u _ => xa hW k u) j l
  have h22 := hd.1 j hj
  have h23 := hd.2 j (by omega)
  have h24 := hd.2 (j + 1) (by omega)
  rw [show M - j = M - (j + 1) + 1 by omega] at h23
  generalize hk : M - (j + 1) = k at h22 h23 h24 p2 p3 ⊢
  generalize pW (xN c) (vB c) M j l = P at p1 p2 p3
  have step : ∀ n i, i ≤ P → fX7_fund_L274 K y a3 (nI l) (nI k) (n + 1) (nI i) = if aN c k i + oW (aN c) (vB c) M j (l - i) = oW (aN c) (vB c) M (j + 1) l then K (nI i) else fX7_fund_L274 K y a3 (nI l) (nI k) n (nI (i + 1)) := by
    intro n i hi
    have v1 := aN_bd hW k i
    have v2 := oA_bd hW (vB c) M (j := j) (by omega) (l - i)
    have v3 := oA_bd hW (vB c) M (j := j + 1) (by omega) l
    rw [fX7_fund_L274, nI_10m, nI_add, ald_n (by omega) (by decide), inc_n, nI_41m, nI_add, show 41 * (k + 1) + l = 41 * (k + 1) + (l - i) + i by omega, nI_subn, ald_n (by omega) (by decide), nI_41m, nI_add, ald_n (by omega) (by decide), h22 i (by omega), h23 (l - i) (by omega), h24 l hl, iI_add, inc_n]
    by_cases q : aN c k i + oW (aN c) (vB c) M j (l - i) = oW (aN c) (vB c) M (j + 1) l
    · rw [if_pos q, if_pos (by rw [q])]
    · rw [if_neg q, if_neg (fun z => q ((iI_inj (by omega) (by omega) (by omega) (by omega)).mp z))]
  refine for_up0 (fun n i (_ : Unit) => fX7_fund_L274 K y a3 (nI l) (nI k) n (nI i)) P (fun _ u => u) (fun _ => K (nI P)) ?_ ?_ fu () (fu_big (by omega))
  · intro n i _ hi
    show fX7_fund_L274 K y a3 (nI l) (nI k) (n + 1) (nI i) = fX7_fund_L274 K y a3 (nI l) (nI k) n (nI (i + 1))
    rw [step n i (by omega), if_neg (p3 i hi)]
  · intro n _
    show fX7_fund_L274 K y a3 (nI l) (nI k) (n + 1) (nI P) = _
    rw [step n P (Nat.le_refl _), if_pos p2]
theorem spentM {c y : SS} (hW : WOK c) {M fund k : Nat} (hM : M ≤ 7) (hf : fund ≤ 40) (hk : k < M) (hd : ER (aN c) (vB c) M M y) : fX7_fund_L265 y (nI k) fu (nI fund) 0 0 = some (nI (pW (xN c) (vB c) M (M - (k + 1)) (lfW (xN c) (vB c) M fund k)), y) := by
  have hh := for_inv (fun f i (q : Int32) => fX7_fund_L265 y (nI k) f (nI (lfW (xN c) (vB c) M fund i)) q (nI i)) (k + 1) (fun q => some (q, y)) (fun i q => i = 0 ∨ q = nI (pW (xN c) (vB c) M (M - i) (lfW (xN c) (vB c) M fund (i - 1)))) ?_ ?_ fu 0 (fu_big (by omega)) (Or.inl rfl)
  · obtain ⟨q, q1, q2⟩ := hh
    refine Eq.trans q2 ?_
    rcases q1 with q1 | q1
    · omega
    · rw [q1]; rfl
  · intro f i q hi hq
    show ∃ q2, _ ∧ fX7_fund_L265 y (nI k) (f + 1) (nI (lfW (xN c) (vB c) M fund i)) q (nI i) = fX7_fund_L265 y (nI k) f (nI (lfW (xN c) (vB c) M fund (i + 1))) q2 (nI (i + 1))
    refine ⟨nI (pW (xN c) (vB c) M (M - (i + 1)) (lfW (xN c) (vB c) M fund i)), Or.inr rfl, ?_⟩
    have hl := lfW_le (xN c) (vB c) M fund i
    have hp := pW_le (xN c) (vB c) M (M - (i + 1)) (lfW (xN c) (vB c) M fund i)
    have f1 := fun K => usedM (y := y) hW (M := M) (j := M - (i + 1)) (l := lfW (xN c) (vB c) M fund i) hM (by omega) (by omega) hd (nI k) K
    rw [show M - (M - (i + 1) + 1) = i by omega] at f1
    rw [fX7_fund_L265, if_neg (fun q => by have := (nI_ltI (by omega) (by omega)).mp q; omega), f1, inc_n, lfW]
    have e : nI (lfW (xN c) (vB c) M fund i) - nI (pW (xN c) (vB c) M (M - (i + 1)) (lfW (xN c) (vB c) M fund i)) = nI (lfW (xN c) (vB c) M fund i - pW (xN c) (vB c) M (M - (i + 1)) (lfW (xN c) (vB c) M fund i)) := by
      have := nI_subn (lfW (xN c) (vB c) M fund i - pW (xN c) (vB c) M (M - (i + 1)) (lfW (xN c) (vB c) M fund i)) (pW (xN c) (vB c) M (M - (i + 1)) (lfW (xN c) (vB c) M fund i))
      rw [Nat.sub_add_cancel (by omega)] at this
      exact this
    rw [e]
  · intro f q hq
    show fX7_fund_L265 y (nI k) (f + 1) _ q (nI (k + 1)) = some (q, y)
    rw [fX7_fund_L265, if_pos (nI_lt (by omega) (by omega))]
theorem fundc_u {c : SS} {p1 p2 p3 : Int32} (h1 : ¬ fX6_within p1 0 40 = 0) (h2 : ¬ fX6_within p2 1 7 = 0) (h3 : ¬ fX6_within p3 (-1) (p2 - 1) = 0) : fX6_fund c p1 p2 p3 = Option.bind (fX4_measure c (c.1 2)) (fun q4 => Option.bind (fX3_share q4 p1 p2) (fun q5 => if p3 = (-1 : Int32) then some ((q5.1 + (10000 : Int32)), q5.2) else Option.bind (fX3_spentIn q5.2 p3 p1) (fun q7 => some (q7, q5.2)))) := by
  unfold fX6_fund
  rw [if_neg h1, if_neg h2, if_neg h3]
def fK (p1 p3 : Int32) (c23 : SS) : Option (Int32 × SS) := if p3 = (-1 : Int32) then ald 328 (c23.2 23) p1 (fun v31 => some (((10000 : Int32) + v31), c23)) else fX7_fund_L265 c23 p3 fu p1 (0 : Int32) (0 : Int32)
theorem fundm_u {m : SS} {p1 p2 p3 : Int32} (h1 : ¬ fX7_in p1.toInt64 0 40 = 0) (h2 : ¬ fX7_in p2.toInt64 1 7 = 0) (h3 : ¬ fX7_in p3.toInt64 (-1) (p2 - 1).toInt64 = 0) : fX7_fund m p1 p2 p3 = fX7_fund_L45 (fun c6 => fX7_fund_L76 (fK p1 p3) p1 p3 fu (p2 - 1) c6) p1 p2 p3 fu 0 m := by
  unfold fX7_fund
  rw [if_neg h1, if_neg h2, if_neg h3]
  rfl
theorem ok_fund : OK_fund Inv := by
  intro c m i0 i1 p1 p2 p3 h
  obtain ⟨hW, hR, hP, hi0, hi1, hX⟩ := id h
  have w1 : (fX6_within p1 0 40 = 0) ↔ ¬ (0 ≤ p1.toInt ∧ p1.toInt ≤ 40) := by rw [win, ite0]; rfl
  have v1 : (fX7_in p1.toInt64 0 40 = 0) ↔ ¬ (0 ≤ p1.toInt ∧ p1.toInt ≤ 40) := by rw [lin, ite0]; rfl
  have w2 : (fX6_within p2 1 7 = 0) ↔ ¬ (1 ≤ p2.toInt ∧ p2.toInt ≤ 7) := by rw [win, ite0]; rfl
  have v2 : (fX7_in p2.toInt64 1 7 = 0) ↔ ¬ (1 ≤ p2.toInt ∧ p2.toInt ≤ 7) := by rw [lin, ite0]; rfl
  have w3 : (fX6_within p3 (-1) (p2 - 1) = 0) ↔ ¬ (-1 ≤ p3.toInt ∧ p3.toInt ≤ (p2 - 1).toInt) := by rw [win, ite0]; rfl
  have v3 : (fX7_in p3.toInt64 (-1) (p2 - 1).toInt64 = 0) ↔ ¬ (-1 ≤ p3.toInt ∧ p3.toInt ≤ (p2 - 1).toInt) := by
    rw [lin, ite0, Int32.toInt_toInt64]; rfl
  by_cases h1 : 0 ≤ p1.toInt ∧ p1.toInt ≤ 40
  · by_cases h2 : 1 ≤ p2.toInt ∧ p2.toInt ≤ 7
    · by_cases h3 : -1 ≤ p3.toInt ∧ p3.toInt ≤ (p2 - 1).toInt
      · rw [fundc_u (fun q => w1.mp q h1) (fun q => w2.mp q h2) (fun q => w3.mp q h3), fundm_u (fun q => v1.mp q h1) (fun q => v2.mp q h2) (fun q => v3.mp q h3)]
        obtain ⟨fund, f1, rfl, f3⟩ := nI_back h1.1
        obtain ⟨M, m1, rfl, m3⟩ := nI_back (show 0 ≤ p2.toInt by omega)
        have hf : fund ≤ 40 := by omega
        have hM : M ≤ 7 := by omega
        have hM1 : 1 ≤ M := by omega
        obtain ⟨y1, a1, a2, a3⟩ := meas_c hW (PC.rf c)
        obtain ⟨y2, s1, s2, s3⟩ := share_c hW a2 a3 (m := M) (fund := fund) hM1 hM hf
        obtain ⟨z2, t1, t2, t3⟩ := shareM hW hR (M := M) hM1 hM (nI fund) p3 (fK (nI fund) p3)
        have hI2 := Inv_of h s2.cm t1.ms
        rw [a1, Option.bind_some, s1, Option.bind_some, t3]
        unfold fK
        by_cases q : p3 = -1
        · rw [if_pos q, if_pos q, ald_n (by omega) (by decide)]
          have := t2.2 M (Nat.le_refl _) fund hf
          rw [Nat.sub_self, Nat.mul_zero, Nat.zero_add] at this
          rw [this, two_eq (fun k u _ => xa hW k u), Int32.add_comm]
          exact ⟨_, _, _, rfl, rfl, hI2⟩
        · rw [if_neg q, if_neg q]
          have hp3 : 0 ≤ p3.toInt := by
            have : p3.toInt ≠ -1 := fun z => q (Int32.toInt_inj.mp z)
            omega
          obtain ⟨k, k1, rfl, k3⟩ := nI_back hp3
          have hk : k < M := by
            have e : (nI M - 1).toInt = (M : Int) - 1 := by
              rw [show nI M - 1 = nI (M - 1) by rw [show M = M - 1 + 1 by omega]; exact nI_pred _, nI_ti (by omega)]
              omega
            have := h3.2
            rw [e] at this
            omega
          rw [spent_c hW s2 hM hf hk s3, Option.bind_some, spentM hW hM hf hk t2]
          exact ⟨_, _, _, rfl, rfl, hI2⟩
      · unfold fX6_fund fX7_fund
        rw [if_neg (fun q => w1.mp q h1), if_neg (fun q => w2.mp q h2), if_pos (w3.mpr h3), if_neg (fun q => v1.mp q h1), if_neg (fun q => v2.mp q h2), if_pos (v3.mpr h3)]
        exact ⟨_, _, _, rfl, rfl, h⟩
    · unfold fX6_fund fX7_fund
      rw [if_neg (fun q => w1.mp q h1), if_pos (w2.mpr h2), if_neg (fun q => v1.mp q h1), if_pos (v2.mpr h2)]
      exact ⟨_, _, _, rfl, rfl, h⟩
  · unfold fX6_fund fX7_fund
    rw [if_pos (w1.mpr h1), if_pos (v1.mpr h1)]
    exact ⟨_, _, _, rfl, rfl, h⟩
