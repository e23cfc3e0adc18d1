/-! the planner's solve and breathsAt -/
def stR (n : Nat) (v : Int32) (z : SS) : SS := lp 11 (fun i s => sA s 11 (n * 11 + i) v) z
theorem stR_f (n : Nat) (v : Int32) (z : SS) : (stR n v z).1 = z.1 ∧ (∀ j, j ≠ 11 → (stR n v z).2 j = z.2 j) ∧ ∀ u, u ≤ 10 → (stR n v z).2 11 (n * 11 + u) = v := by
  obtain ⟨h1, h2, h3⟩ := lpA 11 (n * 11) 11 (fun _ => v) z
  refine ⟨h1, h2, fun u hu => ?_⟩
  have := h3 (n * 11 + u)
  rw [if_pos (by omega)] at this
  exact this
theorem startRow_c {z : SS} {n : Nat} (hn : n ≤ 6) (v : Int32) : fX2_startRow z (nI n) v = some (stR n v z) := by
  unfold fX2_startRow stR
  refine for_up0 (fun k i s => fX2_startRow_L2 (nI n) v k (nI i) s) 11 (fun i s => sA s 11 (n * 11 + i) v) some ?_ ?_ fu z (fu_big (by omega))
  · intro k i s hi
    show fX2_startRow_L2 (nI n) v (k + 1) (nI i) s = fX2_startRow_L2 (nI n) v k (nI (i + 1)) _
    rw [fX2_startRow_L2, if_neg (n11 hi), nI_m11, nI_add, ckb_n (by omega) (by decide), nI_clamp (by omega), inc_n]
  · intro k s
    show fX2_startRow_L2 (nI n) v (k + 1) (nI 11) s = some s
    rw [fX2_startRow_L2, if_pos (show (11 : Int32) ≤ nI 11 by decide)]
theorem solve_c {z : SS} {sh : Int32} {E B n : Nat} {G : Nat → Nat → Int} {w : Nat → Int} (hn1 : 1 ≤ n) (hn : n ≤ 6) (hB : B ≤ 10) (hE : E ≤ 9) (z1 : z.1 1 = nI n) (z2 : z.1 2 = sh) (z4 : z.1 4 = nI E) (hG : ∀ s d, -1000000 ≤ G s d ∧ G s d ≤ 1000000) (hw : ∀ s, -1 ≤ w s ∧ w s ≤ 1) (z9 : ∀ s d, s < n → d ≤ B → z.2 9 (s * 11 + d) = iI (G s d)) (z10 : ∀ s, s < n → z.2 10 s = iI (w s)) :
    ∃ y, fX2_solve z (nI B) = some (iI (dV (tmG G w) (bt sh) E B n n 0), y) ∧ y.1 = z.1 ∧ (∀ j, j ≠ 11 → j ≠ 12 → y.2 j = z.2 j) ∧ ∀ k, k < n → ∀ u, u ≤ B → y.2 12 ((n - (k + 1)) * 11 + u) = nI (dK (tmG G w) (bt sh) E B n k u) := by
  obtain ⟨s1, s2, s3⟩ := stR_f n 0 z
  unfold fX2_solve
  rw [z1, startRow_c hn, Option.bind_some, s1, z1]
  have hh := for_inv (fun f k (q : SS) => fX2_solve_L22 (fun c7 => ald 77 (c7.2 11) 0 (fun v8 => some (v8, c7))) (nI B) f (nI (n - k) - 1) q) n (fun c7 => ald 77 (c7.2 11) 0 (fun v8 => some (v8, c7))) (fun k q => SV (tmG G w) (bt sh) E B n (stR n 0 z) k q) ?_ ?_ fu (stR n 0 z) (fu_big (by omega)) ⟨rfl, fun _ _ _ => rfl, fun k' hk' u hu => ?_, fun k' hk' => absurd hk' (by omega)⟩
  · obtain ⟨y, ⟨y1, y2, y3, y4⟩, e⟩ := hh
    refine ⟨y, ?_, by rw [y1, s1], fun j a b => by rw [y2 j a b, s2 j a], fun k hk u hu => y4 k hk u hu⟩
    rw [Nat.sub_zero] at e
    refine Eq.trans e ?_
    show ald 77 (y.2 11) (nI 0) (fun v8 => some (v8, y)) = _
    rw [ald_n (by omega) (by decide)]
    have := y3 n (Nat.le_refl _) 0 (Nat.zero_le _)
    rw [Nat.sub_self] at this
    rw [show y.2 11 0 = _ from this]
  · intro f k q hk hq
    show ∃ q2, _ ∧ fX2_solve_L22 _ (nI B) (f + 1) (nI (n - k) - 1) q = fX2_solve_L22 _ (nI B) f (nI (n - (k + 1)) - 1) q2
    obtain ⟨y2, g1, g2⟩ := row_c (z := stR n 0 z) (sh := sh) (E := E) (B := B) (n := n) (G := G) (w := w) hn hB hE (by rw [s1]; exact z2) (by rw [s1]; exact z4) hG hw (fun s d a b => by rw [s2 9 (by omega)]; exact z9 s d a b) (fun s a => by rw [s2 10 (by omega)]; exact z10 s a) hk hq (fun c6 => fX2_solve_L22 (fun c7 => ald 77 (c7.2 11) 0 (fun v8 => some (v8, c7))) (nI B) f (nI (n - (k + 1)) + (-1 : Int32)) c6)
    refine ⟨y2, g1, ?_⟩
    have e : nI (n - k) - 1 = nI (n - (k + 1)) := by rw [show n - k = n - (k + 1) + 1 by omega]; exact nI_pred _
    rw [fX2_solve_L22, e, if_neg (nI_pos (by omega)), g2, Int32.sub_eq_add_neg]
  · intro f q hq
    show fX2_solve_L22 _ (nI B) (f + 1) (nI (n - n) - 1) q = _
    rw [Nat.sub_self, fX2_solve_L22, if_pos (show nI 0 - 1 < (0 : Int32) by decide)]
  · obtain rfl : k' = 0 := by omega
    rw [Nat.sub_zero, s3 u (by omega)]
    rfl
theorem pl_lo {tm : Nat → Nat → Nat → Int} {cl : Nat → Bool} {E B n : Nat} : ∀ k, k ≤ n → ∀ h j, j < n - k → pl tm cl E B n k h j = h j := by
  intro k
  induction k with
  | zero => intro _ h j _; rfl
  | succ k ih =>
    intro hk h j hj
    rw [pl, ih (by omega) _ j (by omega)]
    unfold uh
    rw [if_neg (by omega)]
theorem psm_cg {h g : Nat → Nat} : ∀ k, (∀ j, j < k → h j = g j) → psm h k = psm g k := by
  intro k
  induction k with
  | zero => intro _; rfl
  | succ k ih =>
    intro q
    show psm h k + h k = psm g k + g k
    rw [ih (fun j hj => q j (by omega)), q k (by omega)]
theorem pl_at {tm : Nat → Nat → Nat → Int} {cl : Nat → Bool} {E B n : Nat} : ∀ k, k ≤ n → ∀ h s, n - k ≤ s → s < n → pl tm cl E B n k h s = dK tm cl E B n (n - (s + 1)) (psm (pl tm cl E B n k h) s) := by
  intro k
  induction k with
  | zero => intro _ h s h1 h2; omega
  | succ k ih =>
    intro hk h s h1 h2
    rw [pl]
    by_cases e : s = n - (k + 1)
    · rw [pl_lo k (by omega) _ s (by omega), psm_cg s (fun j hj => pl_lo k (by omega) _ j (by omega)), psm_u s (by omega), e, uh_s, show n - (n - (k + 1) + 1) = k by omega]
    · exact ih (by omega) _ s (by omega) h2
theorem bp_le (f : Nat → Int) : ∀ M, (bp f M).2 ≤ M := by
  intro M
  induction M with
  | zero => exact Nat.le_refl _
  | succ M ih =>
    rw [bp]
    split
    · omega
    · exact Nat.le_refl _
theorem dK_le (tm : Nat → Nat → Nat → Int) (cl : Nat → Bool) (E B n k u : Nat) : dK tm cl E B n k u ≤ B - u := Nat.le_trans (bp_le _ _) (mr_le _ _ _ _ _).2
theorem breaths_c {y : SS} {tm : Nat → Nat → Nat → Int} {cl : Nat → Bool} {E B n st : Nat} (hn : n ≤ 6) (hB : B ≤ 10) (hst : st < n) (hy : ∀ k, k < n → ∀ u, u ≤ B → y.2 12 ((n - (k + 1)) * 11 + u) = nI (dK tm cl E B n k u)) : fX2_breathsAt y (nI st) = some (nI (pl tm cl E B n n (fun _ => 0) st)) := by
  generalize hH : pl tm cl E B n n (fun _ => 0) = H
  have hat : ∀ s, s < n → H s = dK tm cl E B n (n - (s + 1)) (psm H s) := fun s hs => by
    have := pl_at (tm := tm) (cl := cl) (E := E) (B := B) n (Nat.le_refl _) (fun _ => 0) s (by omega) hs
    rw [hH] at this
    exact this
  have hps : ∀ s, s ≤ n → psm H s ≤ B := by
    intro s
    induction s with
    | zero => intro _; exact Nat.zero_le _
    | succ s ih =>
      intro hs
      have h1 := ih (by omega)
      have h2 := dK_le tm cl E B n (n - (s + 1)) (psm H s)
      rw [← hat s (by omega)] at h2
      show psm H s + H s ≤ B
      omega
  have hv : ∀ s, s < n → y.2 12 (s * 11 + psm H s) = nI (H s) := fun s hs => by
    have := hy (n - (s + 1)) (by omega) (psm H s) (hps s (by omega))
    rw [show n - (n - (s + 1) + 1) = s by omega] at this
    rw [this, ← hat s hs]
  have hh := for_inv (fun f i (q : Int32) => fX2_breathsAt_L7 y (nI st) f (nI (psm H i)) q (nI i)) (st + 1) some (fun i q => i = 0 ∨ q = nI (H (i - 1))) ?_ ?_ fu 0 (fu_big (by omega)) (Or.inl rfl)
  · obtain ⟨q, q1, q2⟩ := hh
    unfold fX2_breathsAt
    rw [show fX2_breathsAt_L7 y (nI st) fu 0 0 0 = some q from q2]
    rcases q1 with q1 | q1
    · omega
    · rw [q1]; rfl
  · intro f i q hi hq
    show ∃ q2, _ ∧ fX2_breathsAt_L7 y (nI st) (f + 1) (nI (psm H i)) q (nI i) = fX2_breathsAt_L7 y (nI st) f (nI (psm H (i + 1))) q2 (nI (i + 1))
    have h1 := hps (i + 1) (by omega)
    have h2 := hps i (by omega)
    refine ⟨nI (H i), Or.inr rfl, ?_⟩
    rw [fX2_breathsAt_L7, if_neg (fun q => by have := (nI_ltI (by omega) (by omega)).mp q; omega), if_neg (n6 (by omega)), nI_m11, nI_add, ald_n (by omega) (by decide), hv i (by omega), nI_add, inc_n]
    have e : mmin (nI (psm H i + H i)) 10 = nI (psm H (i + 1)) := by
      show (if (10 : Int32) < nI (psm H i + H i) then (10 : Int32) else nI (psm H i + H i)) = nI (psm H i + H i)
      rw [if_neg]
      intro q
      have := (nI_ltI (a := 10) (b := psm H i + H i) (by decide) (by have : psm H i + H i ≤ B := h1; omega)).mp q
      have : psm H i + H i ≤ B := h1
      omega
    rw [e]
  · intro f q hq
    show fX2_breathsAt_L7 y (nI st) (f + 1) (nI (psm H (st + 1))) q (nI (st + 1)) = some q
    rw [fX2_breathsAt_L7, if_pos (nI_lt (by omega) (by omega))]
