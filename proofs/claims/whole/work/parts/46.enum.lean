/-! all holds, in their order -/
def psm (h : Nat → Nat) : Nat → Nat
  | 0 => 0
  | k + 1 => psm h k + h k
def uh (h : Nat → Nat) (i x : Nat) : Nat → Nat := fun j => if j = i then x else h j
theorem uh_s (h : Nat → Nat) (i x : Nat) : uh h i x i = x := if_pos rfl
theorem uh_uh (h : Nat → Nat) (i x y : Nat) : uh (uh h i x) i y = uh h i y := by
  funext j
  unfold uh
  by_cases e : j = i
  · rw [if_pos e, if_pos e]
  · rw [if_neg e, if_neg e, if_neg e]
theorem uh_id {h : Nat → Nat} {i x : Nat} (e : h i = x) : uh h i x = h := by
  funext j
  unfold uh
  by_cases q : j = i
  · rw [if_pos q, q, e]
  · rw [if_neg q]
theorem psm_u {h : Nat → Nat} {i x : Nat} : ∀ k, k ≤ i → psm (uh h i x) k = psm h k := by
  intro k
  induction k with
  | zero => intro _; rfl
  | succ k ih =>
    intro hk
    show psm (uh h i x) k + uh h i x k = psm h k + h k
    rw [ih (by omega)]
    unfold uh
    rw [if_neg (by omega)]
/-- may one more breath be held at stop i, behind it nothing -/
abbrev cn (cl : Nat → Bool) (E B : Nat) (h : Nat → Nat) (i : Nat) : Prop := cl i = false ∧ h i < E ∧ psm h (i + 1) < B
/-- the next hold: the carry from stop i down -/
def nx1 (cl : Nat → Bool) (E B : Nat) : Nat → (Nat → Nat) → Bool × (Nat → Nat)
  | 0, h => (false, h)
  | i + 1, h => if cn cl E B h i then (true, uh h i (h i + 1)) else nx1 cl E B i (uh h i 0)
/-- how many more there can be at stop i over x -/
def mr (cl : Nat → Bool) (E B S i : Nat) : Nat := if cl i then 0 else min E (B - S)
/-- fold over all holds that go on from the prefix; k stops are left -/
def vis {α : Type} (F : (Nat → Nat) → α → α) (cl : Nat → Bool) (E B n : Nat) : Nat → (Nat → Nat) → α → α
  | 0, h, a => F h a
  | k + 1, h, a => lp (mr cl E B (psm h (n - (k + 1))) (n - (k + 1)) + 1) (fun x a => vis F cl E B n k (uh h (n - (k + 1)) x) a) a
def tT : Nat → Nat → Nat
  | 0, _ => 1
  | k + 1, l => lp (l + 1) (fun x s => s + tT k (l - x)) 0
theorem tT_610 : tT 6 10 = 8008 := by decide +kernel
/-- a hold within the bounds -/
def VH (cl : Nat → Bool) (E B n : Nat) (h : Nat → Nat) : Prop := (∀ j, h j ≤ E) ∧ (∀ j, cl j = true → h j = 0) ∧ (∀ j, n ≤ j → h j = 0) ∧ psm h n ≤ B
theorem lp_le (f : Nat → Nat) {a b : Nat} (h : a ≤ b) : lp a (fun x s => s + f x) 0 ≤ lp b (fun x s => s + f x) 0 := by
  induction b with
  | zero => rw [show a = 0 by omega]; exact Nat.le_refl _
  | succ b ih =>
    by_cases e : a = b + 1
    · rw [e]; exact Nat.le_refl _
    · rw [lp_s]
      exact Nat.le_trans (ih (by omega)) (Nat.le_add_right _ _)
theorem enum_key {α σ R : Type} {F : (Nat → Nat) → α → α} {cl : Nat → Bool} {E B n : Nat} {L : Nat → σ → R} {K : σ → R} {Rel : (Nat → Nat) → α → σ → Prop}
    (hs : ∀ h a s, VH cl E B n h → Rel h a s → ∃ s2, Rel (nx1 cl E B n h).2 (F h a) s2 ∧ ∀ j, L (j + 1) s = if (nx1 cl E B n h).1 = true then L j s2 else K s2) :
    ∀ k, k ≤ n → ∀ h a s, (∀ j, h j ≤ E) → (∀ j, cl j = true → h j = 0) → (∀ j, n - k ≤ j → h j = 0) → psm h (n - k) ≤ B → Rel h a s →
      ∃ N s2, N ≤ tT k (B - psm h (n - k)) ∧ Rel (nx1 cl E B (n - k) h).2 (vis F cl E B n k h a) s2 ∧ ∀ j, L (j + N) s = if (nx1 cl E B (n - k) h).1 = true then L j s2 else K s2 := by
  intro k
  induction k with
  | zero =>
    intro _ h a s h1 h2 h3 h4 hr
    obtain ⟨s2, g1, g2⟩ := hs h a s ⟨h1, h2, h3, h4⟩ hr
    exact ⟨1, s2, Nat.le_refl _, g1, g2⟩
  | succ k ih =>
    intro hk h a s h1 h2 h3 h4 hr
    obtain ⟨i, hi⟩ : ∃ i, i = n - (k + 1) := ⟨_, rfl⟩
    have hi1 : n - k = i + 1 := by omega
    rw [← hi] at h3 h4 ⊢
    have hM : mr cl E B (psm h i) i ≤ E ∧ mr cl E B (psm h i) i ≤ B - psm h i ∧ (cl i = true → mr cl E B (psm h i) i = 0) := by
      unfold mr
      cases cl i with
      | true => exact ⟨Nat.zero_le _, Nat.zero_le _, fun _ => rfl⟩
      | false => exact ⟨Nat.min_le_left _ _, Nat.min_le_right _ _, fun q => by cases q⟩
    have hps : ∀ x, psm (uh h i x) (i + 1) = psm h i + x := fun x => by
      show psm (uh h i x) i + uh h i x i = _
      rw [psm_u i (Nat.le_refl _), uh_s]
    have sub : ∀ x a s, x ≤ mr cl E B (psm h i) i → Rel (uh h i x) a s → ∃ N s2, N ≤ tT k (B - psm h i - x) ∧ Rel (nx1 cl E B (i + 1) (uh h i x)).2 (vis F cl E B n k (uh h i x) a) s2 ∧ ∀ j, L (j + N) s = if (nx1 cl E B (i + 1) (uh h i x)).1 = true then L j s2 else K s2 := by
      intro x a s hx hr
      have := ih (by omega) (uh h i x) a s (fun j => ?_) (fun j hj => ?_) (fun j hj => ?_) ?_ hr
      · rw [hi1, hps, Nat.sub_add_eq] at this
        exact this
      · unfold uh
        by_cases e : j = i
        · rw [if_pos e]; omega
        · rw [if_neg e]; exact h1 j
      · unfold uh
        by_cases e : j = i
        · rw [if_pos e]; rw [e] at hj; have := hM.2.2 hj; omega
        · rw [if_neg e]; exact h2 j hj
      · unfold uh
        rw [if_neg (by omega)]; exact h3 j (by omega)
      · rw [hi1, hps]; omega
    have row : ∀ x, x ≤ mr cl E B (psm h i) i → ∃ N s2, N ≤ lp (x + 1) (fun x s => s + tT k (B - psm h i - x)) 0 ∧ Rel (nx1 cl E B (i + 1) (uh h i x)).2 (lp (x + 1) (fun x a => vis F cl E B n k (uh h i x) a) a) s2 ∧ ∀ j, L (j + N) s = if (nx1 cl E B (i + 1) (uh h i x)).1 = true then L j s2 else K s2 := by
      intro x
      induction x with
      | zero =>
        intro hx
        obtain ⟨N, s2, g1, g2, g3⟩ := sub 0 a s hx (by rw [uh_id (h3 i (Nat.le_refl _))]; exact hr)
        exact ⟨N, s2, by rw [lp_s]; exact Nat.le_trans g1 (Nat.le_add_left _ _), g2, g3⟩
      | succ x ihx =>
        intro hx
        obtain ⟨N, s2, g1, g2, g3⟩ := ihx (by omega)
        have hcn : cn cl E B (uh h i x) i := by
          refine ⟨?_, ?_, ?_⟩
          · cases e : cl i with
            | false => rfl
            | true => have := hM.2.2 e; omega
          · rw [uh_s]; omega
          · rw [hps]; omega
        have hnx : nx1 cl E B (i + 1) (uh h i x) = (true, uh h i (x + 1)) := by
          rw [nx1, if_pos hcn, uh_s, uh_uh]
        rw [hnx] at g2 g3
        obtain ⟨N2, s3, k1, k2, k3⟩ := sub (x + 1) _ s2 hx g2
        refine ⟨N2 + N, s3, ?_, k2, fun j => ?_⟩
        · rw [lp_s]
          omega
        · rw [← Nat.add_assoc, g3, if_pos rfl, k3]
    obtain ⟨N, s2, g1, g2, g3⟩ := row _ (Nat.le_refl _)
    have hncn : ¬ cn cl E B (uh h i (mr cl E B (psm h i) i)) i := by
      rintro ⟨q1, q2, q3⟩
      rw [uh_s] at q2
      rw [hps] at q3
      unfold mr at q2 q3
      rw [q1] at q2 q3
      simp only [Bool.false_eq_true, if_false] at q2 q3
      omega
    have hnx : nx1 cl E B (i + 1) (uh h i (mr cl E B (psm h i) i)) = nx1 cl E B i h := by
      rw [nx1, if_neg hncn, uh_uh, uh_id (h3 i (Nat.le_refl _))]
    rw [hnx] at g2 g3
    refine ⟨N, s2, Nat.le_trans g1 (lp_le (fun x => tT k (B - psm h i - x)) (by omega)), ?_, g3⟩
    rw [vis, ← hi]
    exact g2
/-- a loop over all holds is the fold over them -/
theorem enum_all {α σ R : Type} {F : (Nat → Nat) → α → α} {cl : Nat → Bool} {E B n : Nat} {L : Nat → σ → R} {K : σ → R} {Rel : (Nat → Nat) → α → σ → Prop}
    (hs : ∀ h a s, VH cl E B n h → Rel h a s → ∃ s2, Rel (nx1 cl E B n h).2 (F h a) s2 ∧ ∀ j, L (j + 1) s = if (nx1 cl E B n h).1 = true then L j s2 else K s2) {fl : Nat} (hf : tT n B ≤ fl) (a : α) (s : σ) (hr : Rel (fun _ => 0) a s) :
    ∃ s2, Rel (fun _ => 0) (vis F cl E B n n (fun _ => 0) a) s2 ∧ L fl s = K s2 := by
  obtain ⟨N, s2, g1, g2, g3⟩ := enum_key hs n (Nat.le_refl _) (fun _ => 0) a s (fun _ => Nat.zero_le _) (fun _ _ => rfl) (fun _ _ => rfl) (by rw [Nat.sub_self]; exact Nat.zero_le _) hr
  rw [Nat.sub_self] at g1 g2 g3
  have g1' : N ≤ tT n B := g1
  have := g3 (fl - N)
  rw [Nat.sub_add_cancel (by omega)] at this
  exact ⟨s2, g2, this⟩
