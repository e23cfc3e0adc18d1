/-! the class's share and spentIn -/
theorem nI_m41 (s : Nat) : nI s * (41 : Int32) = nI (s * 41) := (Int32.ofNat_mul s 41).symm
theorem nI_m10 (s : Nat) : nI s * (10 : Int32) = nI (s * 10) := (Int32.ofNat_mul s 10).symm
theorem mmin_n {a b : Nat} (ha : a < 2 ^ 31) (hb : b < 2 ^ 31) : mmin (nI a) (nI b) = nI (min a b) := by
  show (if nI b < nI a then nI b else nI a) = _
  by_cases h : b < a
  · rw [if_pos (nI_lt h ha), Nat.min_eq_right (by omega)]
  · rw [if_neg (fun q => h ((nI_ltI hb ha).mp q)), Nat.min_eq_left (by omega)]
/-- the two rows that a night's choice reads -/
def NR (x : Nat → Nat → Int) (B m fund j : Nat) (y : SS) : Prop := (∀ d, d ≤ B → y.2 13 ((m - (j + 1)) * 10 + d) = iI (x (m - (j + 1)) d)) ∧ ∀ l, l ≤ fund → y.2 14 ((m - j) * 41 + l) = iI (oW x B m j l)
theorem score_c {y : SS} {x : Nat → Nat → Int} {B m fund j l b : Nat} (hB : B ≤ 9) (hm : m ≤ 7) (hj : j < m) (hf : fund ≤ 40) (hy : NR x B m fund j y) (hl : l ≤ fund) (hb : b ≤ min B l) : fX3_scoreOf y (nI (m - (j + 1))) (nI l) (nI b) = some (iI (x (m - (j + 1)) b + oW x B m j (l - b))) := by
  obtain ⟨h1, h2⟩ := hy
  have e1 : m - j = m - (j + 1) + 1 := by omega
  rw [e1] at h2
  generalize hk : m - (j + 1) = k at h1 h2 ⊢
  have hk6 : k ≤ 6 := by omega
  unfold fX3_scoreOf
  rw [nI_m10, nI_add, ald_n (by omega) (by decide), h1 b (by omega), inc_n, nI_m41, nI_add, show (k + 1) * 41 + l = (k + 1) * 41 + (l - b) + b by omega, nI_subn, ald_n (by omega) (by decide), h2 (l - b) (by omega), iI_add]
theorem fob_c {y : SS} {x : Nat → Nat → Int} {B m fund j l : Nat} (hB : B ≤ 9) (hm : m ≤ 7) (hj : j < m) (hf : fund ≤ 40) (y3 : y.1 3 = nI B) (hy : NR x B m fund j y) (hl : l ≤ fund) (hx : ∀ k u, u ≤ B → -2000000 ≤ x k u ∧ x k u ≤ 2000000) (ho : ∀ l, -2000000 ≤ oW x B m j l ∧ oW x B m j l ≤ 2000000) : fX3_fewestOfBest y (nI (m - (j + 1))) (nI l) = some (nI (pW x B m j l)) := by
  generalize hfn : (fun b => x (m - (j + 1)) b + oW x B m j (l - b)) = f
  have sc : ∀ b, b ≤ min B l → fX3_scoreOf y (nI (m - (j + 1))) (nI l) (nI b) = some (iI (f b)) := fun b hb => by
    rw [score_c hB hm hj hf hy hl hb, ← hfn]
  have fb : ∀ b, b ≤ min B l → -4000000 ≤ f b ∧ f b ≤ 4000000 := fun b hb => by
    rw [← hfn]
    have := hx (m - (j + 1)) b (by omega)
    have := ho (l - b)
    show -4000000 ≤ x (m - (j + 1)) b + oW x B m j (l - b) ∧ x (m - (j + 1)) b + oW x B m j (l - b) ≤ 4000000
    omega
  unfold fX3_fewestOfBest pW
  rw [hfn, show fX3_scoreOf y (nI (m - (j + 1))) (nI l) 0 = _ from sc 0 (Nat.zero_le _), Option.bind_some, y3, mmin_n (by omega) (by omega)]
  have hM40 : min B l ≤ 1000 := by omega
  generalize min B l = M at sc fb hM40
  · refine for_up0 (fun n i (_ : Unit) => fX3_fewestOfBest_L27 y (nI (m - (j + 1))) (nI l) (nI M) n (nI (bp f i).2) (iI (bp f i).1) (nI (i + 1))) M (fun _ u => u) (fun _ => some (nI (bp f M).2)) ?_ ?_ fu () (fu_big (by omega))
    · intro n i _ hi
      show fX3_fewestOfBest_L27 y (nI (m - (j + 1))) (nI l) (nI M) (n + 1) (nI (bp f i).2) (iI (bp f i).1) (nI (i + 1)) = fX3_fewestOfBest_L27 y (nI (m - (j + 1))) (nI l) (nI M) n (nI (bp f (i + 1)).2) (iI (bp f (i + 1)).1) (nI (i + 1 + 1))
      rw [fX3_fewestOfBest_L27, if_neg (fun q => by have := (nI_ltI (by omega) (by omega)).mp q; omega), sc (i + 1) (by omega), Option.bind_some, jn_e, inc_n]
      have b1 := fb (i + 1) (by omega)
      have b2 := bp_bd (f := f) i (fun z hz => fb z (by omega))
      rw [bp]
      by_cases q : f (i + 1) ≤ (bp f i).1
      · rw [if_pos ((iI_le (by omega) (by omega) (by omega) (by omega)).mpr q), if_pos q]
      · rw [if_neg (fun z => q ((iI_le (by omega) (by omega) (by omega) (by omega)).mp z)), if_neg q]
    · intro n _
      show fX3_fewestOfBest_L27 y (nI (m - (j + 1))) (nI l) (nI M) (n + 1) (nI (bp f M).2) (iI (bp f M).1) (nI (M + 1)) = _
      rw [fX3_fewestOfBest_L27, if_pos (nI_lt (by omega) (by omega))]
/-- rows of nights that are done -/
def DR (x : Nat → Nat → Int) (B m fund j : Nat) (y : SS) : Prop := (∀ j', j' < j → ∀ d, d ≤ B → y.2 13 ((m - (j' + 1)) * 10 + d) = iI (x (m - (j' + 1)) d)) ∧ ∀ j', j' ≤ j → ∀ l, l ≤ fund → y.2 14 ((m - j') * 41 + l) = iI (oW x B m j' l)
/-- exactly so many breaths in a night -/
def xN (c : SS) (k d : Nat) : Int := xS (gG c (qN c k)) (bt (c.1 2)) (vE c) (vn c) d
/-- at most so many -/
def aN (c : SS) (k u : Nat) : Int := dV (tb c (qN c k)) (bt (c.1 2)) (vE c) u (vn c) (vn c) 0
theorem xa {c : SS} (hW : WOK c) (k u : Nat) : (bp (xN c k) u).1 = aN c k u := by
  unfold aN tb
  have := fwd (G := gG c (qN c k)) (fun s d => gG_bd hW (qN c k) s d) (cl := bt (c.1 2)) (E := vE c) (u := u) (n := vn c) hW.1.2.2
  rw [← this]
  rfl
theorem xN_bd {c : SS} (hW : WOK c) (k d : Nat) : -2000000 ≤ xN c k d ∧ xN c k d ≤ 432 := by
  have n3 := hW.1.2.2
  have := xS_bd (G := gG c (qN c k)) (fun s d => gG_bd hW (qN c k) s d) (bt (c.1 2)) (vE c) (vn c) d
  unfold xN
  omega
theorem aN_bd {c : SS} (hW : WOK c) (k u : Nat) : -432 ≤ aN c k u ∧ aN c k u ≤ 432 := dVt_bd hW (qN c k) (bt (c.1 2)) (vE c) u (vn c) (vn c) 0 hW.1.2.2
theorem oN_bd {c : SS} (hW : WOK c) (B m : Nat) {j : Nat} (hj : j ≤ 7) (l : Nat) : -3024 ≤ oW (xN c) B m j l ∧ oW (xN c) B m j l ≤ 3024 := by
  have := oW_bd (f := xN c) (b := 432) (B := B) (m := m) (fun k u _ => (xN_bd hW k u).2) (fun k => by
    have h1 := xa hW k 0
    have h2 := aN_bd hW k 0
    rw [show (bp (xN c k) 0).1 = xN c k 0 from rfl] at h1
    omega) j l
  omega
theorem night_c {c z : SS} (hW : WOK c) (hz : PC c z) (h8 : ∀ p, p < 8 → z.2 8 p = ndv c (bt (c.1 2)) p) {m fund j : Nat} (hm : m ≤ 7) (hj : j < m) (hf : fund ≤ 40) (hd : DR (xN c) (vB c) m fund j z) (K : SS → Option (Int32 × SS)) :
    ∃ y, PC c y ∧ (∀ p, p < 8 → y.2 8 p = ndv c (bt (c.1 2)) p) ∧ DR (xN c) (vB c) m fund (j + 1) y ∧ (Option.bind (fX5_comeIn z (nI (m - (j + 1)))) (fun q5 => Option.bind (fX2_wantGood z q5 (z.1 3)) (fun q6 => Option.bind (fX2_spendExactly_19 q6 (q6.1 3) (nI (m - (j + 1)) * (10 : Int32))) (fun q7 => fX3_share_L80 K (nI fund) (nI (m - (j + 1))) fu (0 : Int32) q7)))) = K y := by
  obtain ⟨⟨n1, n2, n3⟩, -, ⟨b1, b2⟩, ⟨e1, e2⟩, -⟩ := id hW
  obtain ⟨k, hk⟩ : ∃ k, k = m - (j + 1) := ⟨_, rfl⟩
  have hk6 : k ≤ 6 := by omega
  have hkj : m - j = k + 1 := by omega
  obtain ⟨d1, d2⟩ := hd
  rw [← hk, comeIn_c hz (by omega), Option.bind_some, hz.1, b1]
  obtain ⟨y1, w1, w2, w3, w4⟩ := wantGood_c hW hz h8 (bs (qN c k)) (B := vB c) (by omega)
  have hq : gG c (bt (bs (qN c k))) = gG c (qN c k) := gG_cg (fun p hp => by rw [bs_bt, decide_eq_true hp, Bool.true_and])
  rw [hq] at w4
  rw [w1, Option.bind_some, w2, hz.1, b1, nI_m10]
  obtain ⟨y2, s1, s2, s3, s4, s5⟩ := spend_c (z := y1) (sh := c.1 2) (G := gG c (qN c k)) (fun s d => gG_bd hW (qN c k) s d) (E := vE c) (B := vB c) (n := vn c) (o := k * 10) n3 b2 e2 (by omega) (by rw [w2, hz.1]; exact n1) (by rw [w2, hz.1]) (by rw [w2, hz.1]; exact e1) (fun s d hs hd => w4 s d (by omega) hd)
  rw [s1, Option.bind_some]
  have p2 : PC c y2 := hz.of (by rw [s2, w2]) (fun i hi => by rw [s3 i (by omega), w3 i (by omega)])
  have p8 : ∀ p, p < 8 → y2.2 8 p = ndv c (bt (c.1 2)) p := fun p hp => by rw [s3 8 (by omega), w3 8 (by omega)]; exact h8 p hp
  have r13 : ∀ j', j' < j + 1 → ∀ d, d ≤ vB c → y2.2 13 ((m - (j' + 1)) * 10 + d) = iI (xN c (m - (j' + 1)) d) := fun j' hj' d hd => by
    by_cases e : j' = j
    · subst e; rw [← hk]; exact s4 d hd
    · rw [s5 _ (by omega), w3 13 (by omega)]; exact d1 j' (by omega) d hd
  have r14 : ∀ j', j' ≤ j → ∀ l, l ≤ fund → y2.2 14 ((m - j') * 41 + l) = iI (oW (xN c) (vB c) m j' l) := fun j' hj' l hl => by
    rw [s3 14 (by omega), w3 14 (by omega)]; exact d2 j' hj' l hl
  have hh := for_inv (fun n i (q : SS) => fX3_share_L80 K (nI fund) (nI k) n (nI i) q) (fund + 1) K (fun i q => q.1 = y2.1 ∧ (∀ a, a ≠ 14 → q.2 a = y2.2 a) ∧ (∀ j', j' ≤ j → ∀ l, l ≤ fund → q.2 14 ((m - j') * 41 + l) = iI (oW (xN c) (vB c) m j' l)) ∧ ∀ l, l < i → q.2 14 (k * 41 + l) = iI (oW (xN c) (vB c) m (j + 1) l)) ?_ ?_ fu y2 (fu_big (by omega)) ⟨rfl, fun _ _ => rfl, r14, fun l hl => absurd hl (by omega)⟩
  · obtain ⟨y, ⟨g1, g2, g3, g4⟩, e⟩ := hh
    refine ⟨y, p2.of g1 (fun i hi => g2 i (by omega)), fun p hp => by rw [g2 8 (by omega)]; exact p8 p hp, ⟨fun j' hj' d hd => by rw [g2 13 (by omega)]; exact r13 j' hj' d hd, fun j' hj' l hl => ?_⟩, e⟩
    by_cases q : j' = j + 1
    · subst q; rw [← hk]; exact g4 l (by omega)
    · exact g3 j' (by omega) l hl
  · intro n l q hl ⟨g1, g2, g3, g4⟩
    show ∃ q2, _ ∧ fX3_share_L80 K (nI fund) (nI k) (n + 1) (nI l) q = fX3_share_L80 K (nI fund) (nI k) n (nI (l + 1)) q2
    have hNR : NR (xN c) (vB c) m fund j q := ⟨fun d hd => by rw [g2 13 (by omega)]; exact r13 j (by omega) d hd, fun l hl => g3 j (Nat.le_refl _) l hl⟩
    have hp : pW (xN c) (vB c) m j l ≤ min (vB c) l := bp_le _ _
    have f1 := fob_c (y := q) (l := l) b2 hm hj hf (by rw [g1, p2.1]; exact b1) hNR (by omega) (fun k u _ => by have := xN_bd hW k u; omega) (fun l => by have := oN_bd hW (vB c) m (j := j) (by omega) l; omega)
    have f2 := score_c (y := q) (l := l) (b := pW (xN c) (vB c) m j l) b2 hm hj hf hNR (by omega) hp
    rw [← hk] at f1 f2
    have e3 : xN c k (pW (xN c) (vB c) m j l) + oW (xN c) (vB c) m j (l - pW (xN c) (vB c) m j l) = oW (xN c) (vB c) m (j + 1) l := by
      rw [oW, bp_att]
      unfold pW
      rw [← hk]
    rw [e3] at f2
    refine ⟨sA q 14 (k * 41 + l) (iI (oW (xN c) (vB c) m (j + 1) l)), ⟨g1, fun a ha => by rw [sA_2, if_neg ha]; exact g2 a ha, fun j' hj' l' hl' => ?_, fun l' hl' => ?_⟩, ?_⟩
    · rw [sA_2, if_pos rfl, upd_e, if_neg (by omega)]; exact g3 j' hj' l' hl'
    · rw [sA_2, if_pos rfl, upd_e]
      by_cases e : l' = l
      · rw [if_pos (by rw [e]), e]
      · rw [if_neg (by omega)]; exact g4 l' (by omega)
    · rw [fX3_share_L80, if_neg (fun q => by have := (nI_ltI (by omega) (by omega)).mp q; omega), f1, Option.bind_some, f2, Option.bind_some, nI_m41, nI_add, ckb_n (by omega) (by decide), nI_clamp (by omega), inc_n]
  · intro n q hq
    show fX3_share_L80 K (nI fund) (nI k) (n + 1) (nI (fund + 1)) q = K q
    rw [fX3_share_L80, if_pos (nI_lt (by omega) (by omega))]
theorem share_c {c z : SS} (hW : WOK c) (hz : PC c z) (h8 : ∀ p, p < 8 → z.2 8 p = ndv c (bt (c.1 2)) p) {m fund : Nat} (hm1 : 1 ≤ m) (hm : m ≤ 7) (hf : fund ≤ 40) : ∃ y, fX3_share z (nI fund) (nI m) = some (iI (oW (xN c) (vB c) m m fund), y) ∧ PC c y ∧ DR (xN c) (vB c) m fund m y := by
  unfold fX3_share
  have h0 := for_inv (fun k i (q : SS) => fX3_share_L2 (fun c3 => fX3_share_L29 (fun c13 => ald 328 (c13.2 14) (nI fund) (fun v14 => some (v14, c13))) (nI fund) fu (nI m - 1) c3) (nI fund) (nI m) k (nI i) q) (fund + 1) (fun c3 => fX3_share_L29 (fun c13 => ald 328 (c13.2 14) (nI fund) (fun v14 => some (v14, c13))) (nI fund) fu (nI m - 1) c3) (fun i q => q.1 = z.1 ∧ (∀ j, j ≠ 14 → q.2 j = z.2 j) ∧ ∀ l, l < i → q.2 14 (m * 41 + l) = 0) ?_ ?_ fu z (fu_big (by omega)) ⟨rfl, fun _ _ => rfl, fun d hd => absurd hd (by omega)⟩
  · obtain ⟨y0, ⟨i1, i2, i3⟩, e0⟩ := h0
    have hh := for_inv (fun k j (q : SS) => fX3_share_L29 (fun c13 => ald 328 (c13.2 14) (nI fund) (fun v14 => some (v14, c13))) (nI fund) k (nI (m - j) - 1) q) m (fun c13 => ald 328 (c13.2 14) (nI fund) (fun v14 => some (v14, c13))) (fun j q => PC c q ∧ (∀ p, p < 8 → q.2 8 p = ndv c (bt (c.1 2)) p) ∧ DR (xN c) (vB c) m fund j q) ?_ ?_ fu y0 (fu_big (by omega)) ⟨hz.of i1 (fun j hj => i2 j (by omega)), fun p hp => by rw [i2 8 (by omega)]; exact h8 p hp, fun j' hj' => absurd hj' (by omega), fun j' hj' l hl => by
      obtain rfl : j' = 0 := by omega
      rw [Nat.sub_zero, i3 l (by omega)]
      rfl⟩
    · obtain ⟨y, ⟨g1, g2, g3⟩, e⟩ := hh
      refine ⟨y, ?_, g1, g3⟩
      refine Eq.trans e0 ?_
      rw [Nat.sub_zero] at e
      refine Eq.trans e ?_
      rw [ald_n (by omega) (by decide)]
      have := g3.2 m (Nat.le_refl _) fund (Nat.le_refl _)
      rw [Nat.sub_self, Nat.zero_mul, Nat.zero_add] at this
      rw [this]
    · intro k j q hj ⟨g1, g2, g3⟩
      show ∃ q2, _ ∧ fX3_share_L29 _ (nI fund) (k + 1) (nI (m - j) - 1) q = fX3_share_L29 _ (nI fund) k (nI (m - (j + 1)) - 1) q2
      have e : nI (m - j) - 1 = nI (m - (j + 1)) := by rw [show m - j = m - (j + 1) + 1 by omega]; exact nI_pred _
      obtain ⟨y, a1, a2, a3, a4⟩ := night_c hW g1 g2 hm hj hf g3 (fun c12 => fX3_share_L29 (fun c13 => ald 328 (c13.2 14) (nI fund) (fun v14 => some (v14, c13))) (nI fund) k (nI (m - (j + 1)) + (-1 : Int32)) c12)
      refine ⟨y, ⟨a1, a2, a3⟩, ?_⟩
      rw [fX3_share_L29, e, if_neg (nI_pos (by omega)), Int32.sub_eq_add_neg]
      exact a4
    · intro k q hq
      show fX3_share_L29 _ (nI fund) (k + 1) (nI (m - m) - 1) q = _
      rw [Nat.sub_self, fX3_share_L29, if_pos (show nI 0 - 1 < (0 : Int32) by decide)]
  · intro k i q hi ⟨i1, i2, i3⟩
    show ∃ q2, _ ∧ fX3_share_L2 _ (nI fund) (nI m) (k + 1) (nI i) q = fX3_share_L2 _ (nI fund) (nI m) k (nI (i + 1)) q2
    refine ⟨sA q 14 (m * 41 + i) 0, ⟨i1, fun j hj => by rw [sA_2, if_neg hj]; exact i2 j hj, fun d hd => ?_⟩, ?_⟩
    · rw [sA_2, if_pos rfl, upd_e]
      by_cases e : d = i
      · rw [if_pos (by rw [e])]
      · rw [if_neg (by omega)]; exact i3 d (by omega)
    · rw [fX3_share_L2, if_neg (fun q => by have := (nI_ltI (by omega) (by omega)).mp q; omega), nI_m41, nI_add, ckb_n (by omega) (by decide), nI_clamp (by omega), inc_n]
  · intro k q hq
    show fX3_share_L2 _ (nI fund) (nI m) (k + 1) (nI (fund + 1)) q = _
    rw [fX3_share_L2, if_pos (nI_lt (by omega) (by omega))]
/-- what is left ahead of a night -/
def lfW (x : Nat → Nat → Int) (B m fund : Nat) : Nat → Nat
  | 0 => fund
  | i + 1 => lfW x B m fund i - pW x B m (m - (i + 1)) (lfW x B m fund i)
theorem lfW_le (x : Nat → Nat → Int) (B m fund : Nat) : ∀ i, lfW x B m fund i ≤ fund := by
  intro i
  induction i with
  | zero => exact Nat.le_refl _
  | succ i ih => rw [lfW]; omega
theorem pW_le (x : Nat → Nat → Int) (B m j l : Nat) : pW x B m j l ≤ min B l := bp_le _ _
theorem spent_c {c y : SS} (hW : WOK c) (hy : PC c y) {m fund k : Nat} (hm : m ≤ 7) (hf : fund ≤ 40) (hk : k < m) (hd : DR (xN c) (vB c) m fund m y) : fX3_spentIn y (nI k) (nI fund) = some (nI (pW (xN c) (vB c) m (m - (k + 1)) (lfW (xN c) (vB c) m fund k))) := by
  obtain ⟨-, -, ⟨b1, b2⟩, -⟩ := id hW
  have hh := for_inv (fun f i (q : Int32) => fX3_spentIn_L8 y (nI k) f (nI (lfW (xN c) (vB c) m fund i)) q (nI i)) (k + 1) some (fun i q => i = 0 ∨ q = nI (pW (xN c) (vB c) m (m - i) (lfW (xN c) (vB c) m fund (i - 1)))) ?_ ?_ fu 0 (fu_big (by omega)) (Or.inl rfl)
  · obtain ⟨q, q1, q2⟩ := hh
    unfold fX3_spentIn
    rw [show fX3_spentIn_L8 y (nI k) fu (nI fund) 0 0 = some q from q2]
    rcases q1 with q1 | q1
    · omega
    · rw [q1]; rfl
  · intro f i q hi hq
    show ∃ q2, _ ∧ fX3_spentIn_L8 y (nI k) (f + 1) (nI (lfW (xN c) (vB c) m fund i)) q (nI i) = fX3_spentIn_L8 y (nI k) f (nI (lfW (xN c) (vB c) m fund (i + 1))) q2 (nI (i + 1))
    refine ⟨nI (pW (xN c) (vB c) m (m - (i + 1)) (lfW (xN c) (vB c) m fund i)), Or.inr rfl, ?_⟩
    have hl := lfW_le (xN c) (vB c) m fund i
    have hp := pW_le (xN c) (vB c) m (m - (i + 1)) (lfW (xN c) (vB c) m fund i)
    have hNR : NR (xN c) (vB c) m fund (m - (i + 1)) y := ⟨fun d hd2 => hd.1 _ (by omega) d hd2, fun l hl => hd.2 _ (by omega) l hl⟩
    have f1 := fob_c (y := y) (j := m - (i + 1)) (l := lfW (xN c) (vB c) m fund i) b2 hm (by omega) hf (by rw [hy.1]; exact b1) hNR hl (fun k u _ => by have := xN_bd hW k u; omega) (fun l => by have := oN_bd hW (vB c) m (j := m - (i + 1)) (by omega) l; omega)
    rw [show m - (m - (i + 1) + 1) = i by omega] at f1
    rw [fX3_spentIn_L8, if_neg (fun q => by have := (nI_ltI (by omega) (by omega)).mp q; omega), if_neg (n7 (by omega)), f1, Option.bind_some, inc_n, lfW]
    have e : nI (lfW (xN c) (vB c) m fund i) - nI (pW (xN c) (vB c) m (m - (i + 1)) (lfW (xN c) (vB c) m fund i)) = nI (lfW (xN c) (vB c) m fund i - pW (xN c) (vB c) m (m - (i + 1)) (lfW (xN c) (vB c) m fund i)) := by
      have := nI_subn (lfW (xN c) (vB c) m fund i - pW (xN c) (vB c) m (m - (i + 1)) (lfW (xN c) (vB c) m fund i)) (pW (xN c) (vB c) m (m - (i + 1)) (lfW (xN c) (vB c) m fund i))
      rw [Nat.sub_add_cancel (by omega)] at this
      exact this
    rw [e]
  · intro f q hq
    show fX3_spentIn_L8 y (nI k) (f + 1) _ q (nI (k + 1)) = some q
    rw [fX3_spentIn_L8, if_pos (nI_lt (by omega) (by omega))]
