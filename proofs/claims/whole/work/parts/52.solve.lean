theorem bp_bd {f : Nat → Int} {lo hi : Int} : ∀ M, (∀ x, x ≤ M → lo ≤ f x ∧ f x ≤ hi) → lo ≤ (bp f M).1 ∧ (bp f M).1 ≤ hi := by
  intro M
  induction M with
  | zero => intro h; exact h 0 (Nat.le_refl _)
  | succ M ih =>
    intro h
    rw [bp]
    split
    · exact ih (fun x hx => h x (by omega))
    · exact h (M + 1) (Nat.le_refl _)
def tmG (G : Nat → Nat → Int) (w : Nat → Int) (s u x : Nat) : Int := G s (u + x) + w s * x
theorem mr_le (cl : Nat → Bool) (E B S i : Nat) : mr cl E B S i ≤ E ∧ mr cl E B S i ≤ B - S := by
  unfold mr
  split
  · exact ⟨Nat.zero_le _, Nat.zero_le _⟩
  · exact ⟨Nat.min_le_left _ _, Nat.min_le_right _ _⟩
theorem tmG_bd {G : Nat → Nat → Int} {w : Nat → Int} (hG : ∀ s d, -1000000 ≤ G s d ∧ G s d ≤ 1000000) (hw : ∀ s, -1 ≤ w s ∧ w s ≤ 1) (s u x : Nat) (hx : x ≤ 10) : -1000010 ≤ tmG G w s u x ∧ tmG G w s u x ≤ 1000010 := by
  have h := hG s (u + x)
  have h2 := hw s
  unfold tmG
  generalize w s = v at h2
  have : v = -1 ∨ v = 0 ∨ v = 1 := by omega
  rcases this with rfl | rfl | rfl <;> omega
theorem dV_bd {G : Nat → Nat → Int} {w : Nat → Int} (hG : ∀ s d, -1000000 ≤ G s d ∧ G s d ≤ 1000000) (hw : ∀ s, -1 ≤ w s ∧ w s ≤ 1) {cl : Nat → Bool} {E B n : Nat} (hE : E ≤ 9) : ∀ k u : Nat, -1000010 * (k : Int) ≤ dV (tmG G w) cl E B n k u ∧ dV (tmG G w) cl E B n k u ≤ 1000010 * (k : Int) := by
  intro k
  induction k with
  | zero => intro u; exact ⟨Int.le_refl _, Int.le_refl _⟩
  | succ k ih =>
    intro u
    rw [dV]
    refine bp_bd _ (fun x hx => ?_)
    have h1 := mr_le cl E B u (n - (k + 1))
    have h2 := tmG_bd hG hw (n - (k + 1)) u x (by omega)
    have h3 := ih (u + x)
    omega
/-- the planner's rows, the last k stops done -/
def SV (tm : Nat → Nat → Nat → Int) (cl : Nat → Bool) (E B n : Nat) (z : SS) (k : Nat) (y : SS) : Prop := y.1 = z.1 ∧ (∀ j, j ≠ 11 → j ≠ 12 → y.2 j = z.2 j) ∧ (∀ k', k' ≤ k → ∀ u, u ≤ B → y.2 11 ((n - k') * 11 + u) = iI (dV tm cl E B n k' u)) ∧ ∀ k', k' < k → ∀ u, u ≤ B → y.2 12 ((n - (k' + 1)) * 11 + u) = nI (dK tm cl E B n k' u)
theorem row_c {z : SS} {sh : Int32} {E B n : Nat} {G : Nat → Nat → Int} {w : Nat → Int} (hn : n ≤ 6) (hB : B ≤ 10) (hE : E ≤ 9) (z2 : z.1 2 = sh) (z4 : z.1 4 = nI E) (hG : ∀ s d, -1000000 ≤ G s d ∧ G s d ≤ 1000000) (hw : ∀ s, -1 ≤ w s ∧ w s ≤ 1) (z9 : ∀ s d, s < n → d ≤ B → z.2 9 (s * 11 + d) = iI (G s d)) (z10 : ∀ s, s < n → z.2 10 s = iI (w s))
    {k : Nat} (hk : k < n) {y : SS} (hy : SV (tmG G w) (bt sh) E B n z k y) (K : SS → Option (Int32 × SS)) : ∃ y2, SV (tmG G w) (bt sh) E B n z (k + 1) y2 ∧ fX2_solve_L28 K (nI B) (nI (n - (k + 1))) fu 0 y = K y2 := by
  obtain ⟨s, hs⟩ : ∃ s, s = n - (k + 1) := ⟨_, rfl⟩
  have hsk : n - k = s + 1 := by omega
  have hh := for_inv (fun f i (q : SS) => fX2_solve_L28 K (nI B) (nI s) f (nI i) q) (B + 1) K (fun i q => SV (tmG G w) (bt sh) E B n z k q ∧ ∀ u, u < i → q.2 11 (s * 11 + u) = iI (dV (tmG G w) (bt sh) E B n (k + 1) u) ∧ q.2 12 (s * 11 + u) = nI (dK (tmG G w) (bt sh) E B n k u)) ?_ ?_ fu y (fu_big (by omega)) ⟨hy, fun u hu => absurd hu (by omega)⟩
  · obtain ⟨y2, ⟨⟨h1, h2, h3, h4⟩, h5⟩, e⟩ := hh
    rw [← hs]
    refine ⟨y2, ⟨h1, h2, fun k' hk' u hu => ?_, fun k' hk' u hu => ?_⟩, e⟩
    · by_cases q : k' = k + 1
      · subst q; rw [← hs]; exact (h5 u (by omega)).1
      · exact h3 k' (by omega) u hu
    · by_cases q : k' = k
      · subst q; rw [← hs]; exact (h5 u (by omega)).2
      · exact h4 k' (by omega) u hu
  · intro f u q hu ⟨⟨h1, h2, h3, h4⟩, h5⟩
    show ∃ q2, _ ∧ fX2_solve_L28 K (nI B) (nI s) (f + 1) (nI u) q = fX2_solve_L28 K (nI B) (nI s) f (nI (u + 1)) q2
    have hs6 : s < 6 := by omega
    obtain ⟨y2, g1, g2, g3, g4, g5⟩ := choose_c (z := q) (sh := sh) (s := s) (u := u) (B := B) (E := E) (f := fun x => tmG G w s u x + dV (tmG G w) (bt sh) E B n k (u + x)) hs6 (by omega) hB hE (by rw [h1]; exact z2) (by rw [h1]; exact z4) (fun x hx => by
      have b1 := tmG_bd hG hw s u x (by omega)
      have b2 := dV_bd hG hw (cl := bt sh) (B := B) (n := n) hE k (u + x)
      refine ⟨?_, by omega, by omega⟩
      have e3 := h3 k (Nat.le_refl _) (u + x) hx
      rw [hsk, show (s + 1) * 11 + (u + x) = s * 11 + u + 11 + x by omega] at e3
      rw [h2 9 (by omega) (by omega), h2 10 (by omega) (by omega), e3, Nat.add_assoc, z9 s (u + x) (by omega) hx, z10 s (by omega), nI_iI, iI_mul, iI_add, iI_add]
      rfl)
    refine ⟨y2, ⟨⟨by rw [g2]; exact h1, fun j a b => by rw [g3 j a b]; exact h2 j a b, fun k' hk' u' hu' => ?_, fun k' hk' u' hu' => ?_⟩, fun u' hu' => ?_⟩, ?_⟩
    · rw [g4, upd_e, if_neg (by omega)]; exact h3 k' hk' u' hu'
    · rw [g5, upd_e, if_neg (by omega)]; exact h4 k' hk' u' hu'
    · rw [g4, g5, upd_e, upd_e]
      by_cases e : u' = u
      · subst e
        rw [if_pos rfl, if_pos rfl, dV, dK, ← hs]
        exact ⟨rfl, rfl⟩
      · rw [if_neg (by omega), if_neg (by omega)]; exact h5 u' (by omega)
    · rw [fX2_solve_L28, if_neg (fun q => by have := (nI_ltI (by omega) (by omega)).mp q; omega), if_neg (show ¬ (11 : Int32) ≤ nI u from nI_ge (b := 11) (by omega) (by decide)), g1, Option.bind_some, inc_n]
  · intro f q hq
    show fX2_solve_L28 K (nI B) (nI s) (f + 1) (nI (B + 1)) q = K q
    rw [fX2_solve_L28, if_pos (nI_lt (by omega) (by omega))]
