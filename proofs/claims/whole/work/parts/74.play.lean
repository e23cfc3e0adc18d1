/-! rival: the class goes down through all rows -/
theorem rv_down {z : SS} {D : Nat → Nat} {n : Nat} (hn : n ≤ 6) (z1 : z.1 1 = nI n) (hD : ∀ s, s < n → z.2 17 s = nI (D s) ∧ D s ≤ 99) : (∃ s, s < n ∧ (∀ t, t < s → D t = 0) ∧ 0 < D s ∧ ∃ y, fX0_stepDown z = some y ∧ y.1 = z.1 ∧ (∀ j, j ≠ 17 → y.2 j = z.2 j) ∧ ∀ t, y.2 17 t = if t ≤ s then nI (D s - 1) else z.2 17 t) ∨ ((∀ t, t < n → D t = 0) ∧ fX0_stepDown z = some z) := by
  have hf := for_find (fun f i => fX0_stepDown_L2 (fun x4 => ald 6 (z.2 17) x4 (fun v5 => fX0_stepDown_L33 x4 (v5 - (1 : Int32)) fu (0 : Int32) z)) z f (nI i)) n (fun i => 0 < D i) (some z) (fun i => ald 6 (z.2 17) (nI i) (fun v5 => fX0_stepDown_L33 (nI i) (v5 - (1 : Int32)) fu (0 : Int32) z)) (fun f => by
      show fX0_stepDown_L2 _ z (f + 1) (nI n) = _
      rw [fX0_stepDown_L2, z1, if_pos (Int32.le_refl _)]) (fun f i hi hb => by
      show fX0_stepDown_L2 _ z (f + 1) (nI i) = _
      obtain ⟨d1, d2⟩ := hD i hi
      rw [fX0_stepDown_L2, z1, if_neg (nI_ge hi (by omega)), ald_n (show i < 6 by omega) (by decide), d1, if_neg (fun q => by have := (nI_nle0 (by omega)).mp q; omega)]) (fun f i hi hb => by
      show fX0_stepDown_L2 _ z (f + 1) (nI i) = fX0_stepDown_L2 _ z f (nI (i + 1))
      obtain ⟨d1, d2⟩ := hD i hi
      rw [fX0_stepDown_L2, z1, if_neg (nI_ge hi (by omega)), ald_n (show i < 6 by omega) (by decide), d1, if_pos ((nI_nle0 (by omega)).mpr (by omega)), inc_n]) fu (fu_big (by omega))
  rcases hf with ⟨s, s1, s2, s3, s4⟩ | ⟨s1, s2⟩
  · left
    obtain ⟨d1, d2⟩ := hD s s1
    refine ⟨s, s1, fun t ht => by have := s3 t ht; omega, s2, ?_⟩
    obtain ⟨p1, p2, p3⟩ := lpA 17 0 (s + 1) (fun _ => nI (D s - 1)) z
    refine ⟨lp (s + 1) (fun i q => sA q 17 (0 + i) (nI (D s - 1))) z, ?_, p1, p2, fun t => ?_⟩
    · unfold fX0_stepDown
      refine Eq.trans s4 ?_
      have e5 : nI (D s) - 1 = nI (D s - 1) := by rw [show D s = D s - 1 + 1 by omega]; exact nI_pred _
      rw [ald_n (show s < 6 by omega) (by decide), d1, e5]
      refine for_up0 (fun f i q => fX0_stepDown_L33 (nI s) (nI (D s - 1)) f (nI i) q) (s + 1) (fun i q => sA q 17 (0 + i) (nI (D s - 1))) some ?_ ?_ fu z (fu_big (by omega))
      · intro f i q hi
        show fX0_stepDown_L33 (nI s) (nI (D s - 1)) (f + 1) (nI i) q = fX0_stepDown_L33 (nI s) (nI (D s - 1)) f (nI (i + 1)) _
        rw [fX0_stepDown_L33, if_neg (fun q => by have := (nI_ltI (by omega) (by omega)).mp q; omega), ckb_n (by omega) (by decide), nI_clamp (by omega), inc_n, Nat.zero_add]
      · intro f q
        show fX0_stepDown_L33 (nI s) (nI (D s - 1)) (f + 1) (nI (s + 1)) q = some q
        rw [fX0_stepDown_L33, if_pos (nI_lt (by omega) (by omega))]
    · have := p3 t
      by_cases e : t ≤ s
      · rw [if_pos (by omega)] at this; rw [if_pos e]; exact this
      · rw [if_neg (by omega)] at this; rw [if_neg e]; exact this
  · right
    exact ⟨fun t ht => by have := s1 t ht; omega, s2⟩
/-- what stands at a row's number -/
def rv_row (c y : SS) (D : Nat → Nat) : Prop := y.2 15 (rk D (vn c)) = iI (rv_pk (gV c (vB c - D (vn c - 1)) D).1) ∧ y.2 16 (rk D (vn c)) = iI (rv_pk (gV c (vB c - D (vn c - 1)) D).2)
def rv_I (c z : SS) (N i : Nat) (y : SS) : Prop := QC c y ∧ (∀ a, vn c ≤ a → y.2 17 a = z.2 17 a) ∧ (∃ D, (∀ s, s < vn c → y.2 17 s = nI (D s)) ∧ MN (vn c) D ∧ (∀ s, s < vn c → D s ≤ vB c) ∧ (i < N → rk D (vn c) + i + 1 = N)) ∧ (∀ D, MN (vn c) D → (∀ s, s < vn c → D s ≤ vB c) → N ≤ rk D (vn c) + i → rv_row c y D) ∧ (i = N → y.1 9 = rv_cF (gF c (vB c) (fun _ => 0)))
theorem ch_pos (d s : Nat) : 1 ≤ ch (d + s) s := by
  have := rk_all d s
  omega
theorem rk_upgt {D : Nat → Nat} {n s : Nat} (hs : s < n) : rk D n + 1 ≤ rk (up D s) n := by
  have h1 := rk_up (D := D) hs
  have h2 := ch_pos (D s) s
  have h3 := rk_le (D := D) (D2 := up D (s + 1)) n (fun t _ => by unfold up; split <;> omega)
  omega
theorem rv_turn {c z y : SS} (hW : WOK c) (hB5 : vB c ≤ 5) {N i : Nat} (hN : N ≤ 462) (hi : i < N) (h : rv_I c z N i y) : ∃ y2, rv_I c z N (i + 1) y2 ∧ (Option.bind (fX0_findNext y (nI (N - (i + 1)))) (fun q6 => Option.bind (fX0_settle q6 (nI (N - (i + 1)))) (fun q7 => fX0_stepDown q7))) = some y2 := by
  obtain ⟨⟨n1, n2, n3⟩, -, ⟨b1, b2⟩, -⟩ := id hW
  obtain ⟨hq, h17, ⟨D, hD, hm, hB, hr⟩, hrow, -⟩ := h
  have hrk : rk D (vn c) = N - (i + 1) := by have := hr hi; omega
  obtain ⟨q6, f1, f2, f3, f4⟩ := rv_next hW hq hD hm hB hB5
  rw [hrk] at f1
  have hq6 : QC c q6 := by
    obtain ⟨k1, k2, k3, k4, k5⟩ := hq
    exact ⟨fun k a b d => by rw [f2]; exact k1 k a b d, fun j hj => by rw [f3 j (by omega)]; exact k2 j hj, fun p hp => by rw [f3 8 (by omega)]; exact k3 p hp, fun a ha => by rw [f3 17 (by omega)]; exact k4 a ha, by rw [f3 20 (by omega)]; exact k5⟩
  have hl := hB (vn c - 1) (by omega)
  obtain ⟨q7, g1, g2, g3, g4, g5, g6⟩ := rv_settle hW hq6 (D := D) (r := vB c - D (vn c - 1)) (R := N - (i + 1)) (nx := fun s => rk (up D s) (vn c)) (can := fun s => decide (0 < vB c - D (vn c - 1)) && cn2 c D s) (by omega) (fun s hs => by rw [f3 17 (by omega)]; exact ⟨hD s hs, by have := hB s hs; omega⟩) (fun _ => rfl) (fun s hs => by
      rw [f4 s hs, show decide (D (vn c - 1) < vB c) = decide (0 < vB c - D (vn c - 1)) from decide_eq_decide.mpr (by omega)]) (fun s hs hc => by
      rw [Bool.and_eq_true, decide_eq_true_eq] at hc
      have hlt : D (vn c - 1) < vB c := by omega
      have hub := fun t ht => up_le (s := s) hm hlt t ht
      have h1 := rk_lt (D := up D s) (d := vB c) (n := vn c) hub
      have h2 := rv_462 ⟨vn c, by omega⟩ ⟨vB c, by omega⟩
      have h2' : ch (vB c + vn c) (vn c) ≤ 462 := h2
      have h3 := rk_upgt (D := D) hs
      obtain ⟨r1, r2⟩ := hrow (up D s) (up_mn hm) hub (by omega)
      have e : up D s (vn c - 1) = D (vn c - 1) + 1 := by unfold up; rw [if_pos (by omega)]
      rw [e, show vB c - (D (vn c - 1) + 1) = vB c - D (vn c - 1) - 1 by omega] at r1 r2
      rw [f3 15 (by omega), f3 16 (by omega)]
      exact ⟨by omega, r1, r2⟩)
  have hq7 : QC c q7 := by
    obtain ⟨k1, k2, k3, k4, k5⟩ := hq6
    exact ⟨fun k a b d => by rw [g2 k a b d]; exact k1 k a b d, fun j hj => by rw [g3 j (by omega) (by omega)]; exact k2 j hj, fun p hp => by rw [g3 8 (by omega) (by omega)]; exact k3 p hp, fun a ha => by rw [g3 17 (by omega) (by omega)]; exact k4 a ha, by rw [g3 20 (by omega) (by omega)]; exact k5⟩
  have r7 : ∀ D2, MN (vn c) D2 → (∀ s, s < vn c → D2 s ≤ vB c) → N ≤ rk D2 (vn c) + (i + 1) → rv_row c q7 D2 := by
    intro D2 m2 B2 hge
    unfold rv_row
    rw [g4, g5]
    by_cases e : rk D2 (vn c) = N - (i + 1)
    · have hs := rk_inj (vn c) m2 hm (by rw [e, hrk])
      rw [if_pos e, if_pos e, (gV_cg hW (vB c - D2 (vn c - 1)) D2 D hs).1, hs (vn c - 1) (by omega)]
      exact ⟨rfl, rfl⟩
    · rw [if_neg e, if_neg e, f3 15 (by omega), f3 16 (by omega)]
      exact hrow D2 m2 B2 (by omega)
  have r9 : i + 1 = N → q7.1 9 = rv_cF (gF c (vB c) (fun _ => 0)) := by
    intro e
    have hz0 : rk (fun _ => 0) (vn c) = 0 := rk_0 (fun _ _ => rfl)
    have hs := rk_inj (D := D) (D2 := fun _ => 0) (vn c) hm (fun _ _ _ _ => Nat.le_refl _) (by rw [hrk, hz0]; omega)
    rw [g6, hs (vn c - 1) (by omega), Nat.sub_zero, (gV_cg hW (vB c) D (fun _ => 0) hs).2]
  have d7 : ∀ s, s < vn c → q7.2 17 s = nI (D s) ∧ D s ≤ 99 := fun s hs => by
    rw [g3 17 (by omega) (by omega), f3 17 (by omega)]
    exact ⟨hD s hs, by have := hB s hs; omega⟩
  have hmain : Option.bind (fX0_findNext y (nI (N - (i + 1)))) (fun q6 => Option.bind (fX0_settle q6 (nI (N - (i + 1)))) (fun q7 => fX0_stepDown q7)) = fX0_stepDown q7 := by
    rw [f1, Option.bind_some, g1, Option.bind_some]
  rw [hmain]
  rcases rv_down (z := q7) (D := D) n3 (by rw [hq7.1 1 (by omega) (by omega) (by omega)]; exact n1) d7 with ⟨s, s1, s2, s3, y2, y3, y4, y5, y6⟩ | ⟨s1, s2⟩
  · refine ⟨y2, ⟨?_, fun a ha => ?_, ⟨dn D s, fun t ht => ?_, fun a b hab hb => ?_, fun t ht => ?_, fun _ => ?_⟩, fun D2 m2 B2 hge => ?_, fun e => ?_⟩, y3⟩
    · obtain ⟨k1, k2, k3, k4, k5⟩ := hq7
      refine ⟨fun k a b d => by rw [y4]; exact k1 k a b d, fun j hj => by rw [y5 j (by omega)]; exact k2 j hj, fun p hp => by rw [y5 8 (by omega)]; exact k3 p hp, fun a ha => ?_, by rw [y5 20 (by omega)]; exact k5⟩
      rw [y6]
      by_cases e : a ≤ s
      · have := hB s s1
        rw [if_pos e, nI_ti (by omega)]; omega
      · rw [if_neg e]; exact k4 a ha
    · rw [y6, if_neg (by omega), g3 17 (by omega) (by omega), f3 17 (by omega)]; exact h17 a ha
    · rw [y6]
      unfold dn
      by_cases e : t ≤ s
      · rw [if_pos e, if_pos e]
      · rw [if_neg e, if_neg e]; exact (d7 t ht).1
    · have h1 := hm a b hab hb
      unfold dn
      by_cases e : b ≤ s
      · rw [if_pos (by omega), if_pos e]; exact Nat.le_refl _
      · rw [if_neg e]
        by_cases e2 : a ≤ s
        · rw [if_pos e2]
          have := hm s b (by omega) hb
          omega
        · rw [if_neg e2]; exact h1
    · unfold dn
      have h1 := hB t ht
      have h2 := hB s s1
      split <;> omega
    · have := rk_dn (D := D) s1 s2 s3
      omega
    · obtain ⟨r1, r2⟩ := r7 D2 m2 B2 hge
      unfold rv_row
      rw [y5 15 (by omega), y5 16 (by omega)]
      exact ⟨r1, r2⟩
    · rw [y4]; exact r9 e
  · refine ⟨q7, ⟨hq7, fun a ha => by rw [g3 17 (by omega) (by omega), f3 17 (by omega)]; exact h17 a ha, ⟨D, fun t ht => (d7 t ht).1, hm, hB, fun e => ?_⟩, r7, r9⟩, s2⟩
    have := rk_0 s1
    omega
theorem rv_play {c z : SS} (hW : WOK c) (hX : XB c) (hB5 : vB c ≤ 5) (hz : PC c z) (h8 : ∀ p, p < 8 → z.2 8 p = ndv c (bt (c.1 2)) p) : ∃ y, fX0_play z = some y ∧ QC c y ∧ y.2 15 0 = iI (rv_pk (gV c (vB c) (fun _ => 0)).1) ∧ y.1 9 = rv_cF (gF c (vB c) (fun _ => 0)) := by
  obtain ⟨⟨n1, n2, n3⟩, -, ⟨b1, b2⟩, -⟩ := id hW
  obtain ⟨p1, p2, p3⟩ := lpA 17 0 (vn c) (fun _ => nI (vB c)) z
  generalize hz0 : lp (vn c) (fun i q => sA q 17 (0 + i) (nI (vB c))) z = z0 at p1 p2 p3
  have hbeg : ∀ K : SS → Option SS, fX0_play_L2 K fu 0 z = K z0 := by
    intro K
    rw [← hz0]
    refine (for_up (fun f i q => fX0_play_L2 K f (nI i) q) (vn c) (fun i q => sA q 17 (0 + i) (nI (vB c))) K (fun _ q => q.1 = z.1) ?_ ?_ ?_ fu z (fu_big (by omega)) rfl).1
    · intro f i q hi hq
      show fX0_play_L2 K (f + 1) (nI i) q = fX0_play_L2 K f (nI (i + 1)) _
      rw [fX0_play_L2, hq, hz.1, n1, if_neg (nI_ge hi (by omega)), ckb_n (by omega) (by decide), nI_clamp (by omega), inc_n, Nat.zero_add, b1]
    · intro f q hq
      show fX0_play_L2 K (f + 1) (nI (vn c)) q = K q
      rw [fX0_play_L2, hq, hz.1, n1, if_pos (Int32.le_refl _)]
    · intro i q hi hq
      rw [sA_1]; exact hq
  have hN := rv_462 ⟨vn c, by omega⟩ ⟨vB c, by omega⟩
  have hN' : ch (vB c + vn c) (vn c) ≤ 462 := hN
  have hN1 := ch_pos (vB c) (vn c)
  have hra := rk_all (vB c) (vn c)
  generalize hNN : ch (vB c + vn c) (vn c) = N at hN' hN1 hra
  have z0a : ∀ s, s < vn c → z0.2 17 s = nI (vB c) := fun s hs => by
    have := p3 s
    rw [if_pos (by omega)] at this
    exact this
  have z0b : ∀ s, vn c ≤ s → z0.2 17 s = z.2 17 s := fun s hs => by
    have := p3 s
    rw [if_neg (by omega)] at this
    exact this
  have hq0 : QC c z0 := by
    refine ⟨fun k _ _ _ => by rw [p1, hz.1], fun j hj => by rw [p2 j (by omega)]; exact hz.2 j (by omega), fun p hp => by rw [p2 8 (by omega)]; exact h8 p hp, fun a ha => ?_, by rw [p2 20 (by omega)]; exact hz.2 20 (by omega)⟩
    by_cases e : a < vn c
    · rw [z0a a e, nI_ti (by omega)]; omega
    · rw [z0b a (by omega), hz.2 17 (by omega)]; exact (hX a ha).2
  unfold fX0_play
  rw [hbeg, p1, hz.1, b1, n1, nI_add, rv_ways (by omega) (by omega), Option.bind_some, hNN, show (462 : Int32) = nI 462 from rfl, mmin_n (by omega) (by omega), Nat.min_eq_left hN']
  have hh := for_inv (fun f i (q : SS) => fX0_play_L68 f (nI (N - i) - 1) q) N some (fun i q => rv_I c z N i q) ?_ ?_ fu z0 (fu_big (by omega)) ⟨hq0, z0b, ⟨fun _ => vB c, z0a, fun _ _ _ _ => Nat.le_refl _, fun _ _ => Nat.le_refl _, fun _ => by omega⟩, fun D m2 B2 hge => by
      have := rk_le (D := D) (D2 := fun _ => vB c) (vn c) B2
      omega, fun e => by omega⟩
  · obtain ⟨y, ⟨g1, g2, g3, g4, g5⟩, e⟩ := hh
    have hz0r : rk (fun _ => 0) (vn c) = 0 := rk_0 (fun _ _ => rfl)
    obtain ⟨r1, r2⟩ := g4 (fun _ => 0) (fun _ _ _ _ => Nat.le_refl _) (fun _ _ => Nat.zero_le _) (by omega)
    rw [hz0r, Nat.sub_zero] at r1
    exact ⟨y, e, g1, r1, g5 rfl⟩
  · intro f i q hi hq
    show ∃ q2, _ ∧ fX0_play_L68 (f + 1) (nI (N - i) - 1) q = fX0_play_L68 f (nI (N - (i + 1)) - 1) q2
    have e : nI (N - i) - 1 = nI (N - (i + 1)) := by rw [show N - i = N - (i + 1) + 1 by omega]; exact nI_pred _
    obtain ⟨y2, t1, t2⟩ := rv_turn hW hB5 hN' hi hq
    refine ⟨y2, t1, ?_⟩
    rw [fX0_play_L68, e, if_neg (nI_pos (by omega)), Int32.sub_eq_add_neg]
    cases hf : fX0_findNext q (nI (N - (i + 1))) with
    | none => rw [hf] at t2; cases t2
    | some q6 =>
      rw [hf, Option.bind_some] at t2
      rw [Option.bind_some]
      cases hg : fX0_settle q6 (nI (N - (i + 1))) with
      | none => rw [hg] at t2; cases t2
      | some q7 =>
        rw [hg, Option.bind_some] at t2
        rw [Option.bind_some, t2, Option.bind_some]
  · intro f q hq
    show fX0_play_L68 (f + 1) (nI (N - N) - 1) q = some q
    rw [Nat.sub_self, fX0_play_L68, if_pos (show nI 0 - 1 < (0 : Int32) by decide)]
