/-! the planner's countHolds -/
/-- the rows of numbers of ways, the last k stops done -/
def CV (ok : Nat → Nat → Bool) (cl : Nat → Bool) (E B n : Nat) (z : SS) (k : Nat) (y : SS) : Prop := y.1 = z.1 ∧ (∀ j, j ≠ 11 → y.2 j = z.2 j) ∧ ∀ k', k' ≤ k → ∀ u, u ≤ B → y.2 11 ((n - k') * 11 + u) = nI (dC ok cl E B n k' u)
theorem ways_c {y : SS} {ok : Nat → Nat → Bool} {cl : Nat → Bool} {E B n k u : Nat} (hn : n ≤ 6) (hk : k < n) (hB : B ≤ 10) (hu : u ≤ B) (a1 a2 a3 : Int32) (K : Int32 → Option (Int32 × SS)) (y9 : ∀ d, d ≤ B → (y.2 9 ((n - (k + 1)) * 11 + d) = 0 ↔ ok (n - (k + 1)) d = true)) (y11 : ∀ d, d ≤ B → y.2 11 ((n - k) * 11 + d) = nI (dC ok cl E B n k d)) : fX2_countHolds_L66 K y a1 a2 a3 (nI (mr cl E B u (n - (k + 1)))) (nI ((n - (k + 1)) * 11 + u)) fu 0 0 = K (nI (dC ok cl E B n (k + 1) u)) := by
  have hM := (mr_le cl E B u (n - (k + 1))).2
  rw [dC]
  obtain ⟨s, hs⟩ : ∃ s, s = n - (k + 1) := ⟨_, rfl⟩
  rw [← hs] at y9 hM ⊢
  rw [show n - k = s + 1 by omega] at y11
  generalize mr cl E B u s = M at hM
  refine for_up0 (fun f i (_ : Unit) => fX2_countHolds_L66 K y a1 a2 a3 (nI M) (nI (s * 11 + u)) f (nI (lp i (fun x a => a + (if ok s (u + x) then dC ok cl E B n k (u + x) else 0)) 0)) (nI i)) (M + 1) (fun _ v => v) (fun _ => K (nI (lp (M + 1) (fun x a => a + (if ok s (u + x) then dC ok cl E B n k (u + x) else 0)) 0))) ?_ ?_ fu () (fu_big (by omega))
  · intro f i _ hi
    show fX2_countHolds_L66 K y a1 a2 a3 (nI M) (nI (s * 11 + u)) (f + 1) _ (nI i) = fX2_countHolds_L66 K y a1 a2 a3 (nI M) (nI (s * 11 + u)) f _ (nI (i + 1))
    rw [fX2_countHolds_L66, if_neg (fun q => by have := (nI_ltI (by omega) (by omega)).mp q; omega), nI_add, ald_n (by omega) (by decide), show (11 : Int32) = nI 11 from rfl, nI_add, nI_add, inc_n, lp_s]
    simp only [jn_e, ald_n (show s * 11 + u + 11 + i < 77 by omega) (show 77 < 2 ^ 31 by decide)]
    have e1 := y9 (u + i) (by omega)
    have e2 := y11 (u + i) (by omega)
    rw [show s * 11 + (u + i) = s * 11 + u + i by omega] at e1
    rw [show (s + 1) * 11 + (u + i) = s * 11 + u + 11 + i by omega] at e2
    by_cases hc : ok s (u + i) = true
    · rw [if_pos (e1.mpr hc), if_pos hc, e2, nI_add]
    · rw [if_neg (fun q => hc (e1.mp q)), if_neg hc, Int32.add_zero]
      rfl
  · intro f _
    show fX2_countHolds_L66 K y a1 a2 a3 (nI M) (nI (s * 11 + u)) (f + 1) _ (nI (M + 1)) = _
    rw [fX2_countHolds_L66, if_pos (nI_lt (by omega) (by omega))]
theorem rowC_c {z : SS} {sh : Int32} {E B n : Nat} {ok : Nat → Nat → Bool} (hn : n ≤ 6) (hB : B ≤ 10) (hE : E ≤ 9) (z2 : z.1 2 = sh) (z4 : z.1 4 = nI E) (z9 : ∀ s d, s < n → d ≤ B → (z.2 9 (s * 11 + d) = 0 ↔ ok s d = true)) {k : Nat} (hk : k < n) {y : SS} (hy : CV ok (bt sh) E B n z k y) (K : SS → Option (Int32 × SS)) : ∃ y2, CV ok (bt sh) E B n z (k + 1) y2 ∧ fX2_countHolds_L28 K (nI B) (nI (n - (k + 1))) fu 0 y = K y2 := by
  obtain ⟨s, hs⟩ : ∃ s, s = n - (k + 1) := ⟨_, rfl⟩
  have hsk : n - k = s + 1 := by omega
  have hh := for_inv (fun f i (q : SS) => fX2_countHolds_L28 K (nI B) (nI s) f (nI i) q) (B + 1) K (fun i q => CV ok (bt sh) E B n z k q ∧ ∀ u, u < i → q.2 11 (s * 11 + u) = nI (dC ok (bt sh) E B n (k + 1) u)) ?_ ?_ fu y (fu_big (by omega)) ⟨hy, fun u hu => absurd hu (by omega)⟩
  · obtain ⟨y2, ⟨⟨h1, h2, h3⟩, h5⟩, e⟩ := hh
    rw [← hs]
    refine ⟨y2, ⟨h1, h2, fun k' hk' u hu => ?_⟩, e⟩
    by_cases q : k' = k + 1
    · subst q; rw [← hs]; exact h5 u (by omega)
    · exact h3 k' (by omega) u hu
  · intro f u q hu ⟨⟨h1, h2, h3⟩, h5⟩
    show ∃ q2, _ ∧ fX2_countHolds_L28 K (nI B) (nI s) (f + 1) (nI u) q = fX2_countHolds_L28 K (nI B) (nI s) f (nI (u + 1)) q2
    refine ⟨sA q 11 (s * 11 + u) (nI (dC ok (bt sh) E B n (k + 1) u)), ⟨⟨h1, fun j a => by rw [sA_2, if_neg a]; exact h2 j a, fun k' hk' u' hu' => ?_⟩, fun u' hu' => ?_⟩, ?_⟩
    · rw [sA_2, if_pos rfl, upd_e, if_neg (by omega)]; exact h3 k' hk' u' hu'
    · rw [sA_2, if_pos rfl, upd_e]
      by_cases e : u' = u
      · subst e; rw [if_pos rfl]
      · rw [if_neg (by omega)]; exact h5 u' (by omega)
    · rw [fX2_countHolds_L28, if_neg (fun q => by have := (nI_ltI (by omega) (by omega)).mp q; omega), if_neg (show ¬ (11 : Int32) ≤ nI u from nI_ge (b := 11) (by omega) (by decide)), may_n (z := q) (sh := sh) (E := E) (show s < 6 by omega) (show u ≤ B by omega) hB hE (by rw [h1]; exact z2) (by rw [h1]; exact z4), nI_m11, nI_add, inc_n, hs]
      rw [ways_c (y := q) (ok := ok) (cl := bt sh) (E := E) (u := u) hn hk hB (by omega) _ _ _ _ (fun d hd => by rw [h2 9 (by omega)]; exact z9 _ d (by omega) hd) (fun d hd => h3 k (Nat.le_refl _) d hd)]
      rw [ckb_n (by omega) (by decide), nI_clamp (by omega)]
  · intro f q hq
    show fX2_countHolds_L28 K (nI B) (nI s) (f + 1) (nI (B + 1)) q = K q
    rw [fX2_countHolds_L28, if_pos (nI_lt (by omega) (by omega))]
theorem count_c {z : SS} {sh : Int32} {E B n : Nat} {ok : Nat → Nat → Bool} (hn1 : 1 ≤ n) (hn : n ≤ 6) (hB : B ≤ 10) (hE : E ≤ 9) (z1 : z.1 1 = nI n) (z2 : z.1 2 = sh) (z4 : z.1 4 = nI E) (z9 : ∀ s d, s < n → d ≤ B → (z.2 9 (s * 11 + d) = 0 ↔ ok s d = true)) :
    ∃ y, fX2_countHolds z (nI B) = some (nI (dC ok (bt sh) E B n n 0), y) ∧ y.1 = z.1 ∧ (∀ j, j ≠ 11 → y.2 j = z.2 j) := by
  obtain ⟨s1, s2, s3⟩ := stR_f n 1 z
  unfold fX2_countHolds
  rw [z1, startRow_c hn, Option.bind_some, s1, z1]
  have hh := for_inv (fun f k (q : SS) => fX2_countHolds_L22 (fun c7 => ald 77 (c7.2 11) 0 (fun v8 => some (v8, c7))) (nI B) f (nI (n - k) - 1) q) n (fun c7 => ald 77 (c7.2 11) 0 (fun v8 => some (v8, c7))) (fun k q => CV ok (bt sh) E B n (stR n 1 z) k q) ?_ ?_ fu (stR n 1 z) (fu_big (by omega)) ⟨rfl, fun _ _ => rfl, fun k' hk' u hu => ?_⟩
  · obtain ⟨y, ⟨y1, y2, y3⟩, e⟩ := hh
    refine ⟨y, ?_, by rw [y1, s1], fun j a => by rw [y2 j a, s2 j a]⟩
    rw [Nat.sub_zero] at e
    refine Eq.trans e ?_
    show ald 77 (y.2 11) (nI 0) (fun v8 => some (v8, y)) = _
    rw [ald_n (by omega) (by decide)]
    have := y3 n (Nat.le_refl _) 0 (Nat.zero_le _)
    rw [Nat.sub_self] at this
    rw [show y.2 11 0 = _ from this]
  · intro f k q hk hq
    show ∃ q2, _ ∧ fX2_countHolds_L22 _ (nI B) (f + 1) (nI (n - k) - 1) q = fX2_countHolds_L22 _ (nI B) f (nI (n - (k + 1)) - 1) q2
    obtain ⟨y2, g1, g2⟩ := rowC_c (z := stR n 1 z) (sh := sh) (E := E) (B := B) (n := n) (ok := ok) hn hB hE (by rw [s1]; exact z2) (by rw [s1]; exact z4) (fun s d a b => by rw [s2 9 (by omega)]; exact z9 s d a b) hk hq (fun c6 => fX2_countHolds_L22 (fun c7 => ald 77 (c7.2 11) 0 (fun v8 => some (v8, c7))) (nI B) f (nI (n - (k + 1)) + (-1 : Int32)) c6)
    refine ⟨y2, g1, ?_⟩
    have e : nI (n - k) - 1 = nI (n - (k + 1)) := by rw [show n - k = n - (k + 1) + 1 by omega]; exact nI_pred _
    rw [fX2_countHolds_L22, e, if_neg (nI_pos (by omega)), g2, Int32.sub_eq_add_neg]
  · intro f q hq
    show fX2_countHolds_L22 _ (nI B) (f + 1) (nI (n - n) - 1) q = _
    rw [Nat.sub_self, fX2_countHolds_L22, if_pos (show nI 0 - 1 < (0 : Int32) by decide)]
  · obtain rfl : k' = 0 := by omega
    rw [Nat.sub_zero, s3 u (by omega)]
    rfl
