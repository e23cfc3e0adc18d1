/-! the first best hold, by going back over the stops -/
def bp (f : Nat → Int) : Nat → Int × Nat
  | 0 => (f 0, 0)
  | x + 1 => if f (x + 1) ≤ (bp f x).1 then bp f x else (f (x + 1), x + 1)
def sc (tm : Nat → Nat → Nat → Int) (h : Nat → Nat) : Nat → Int
  | 0 => 0
  | i + 1 => sc tm h i + tm i (psm h i) (h i)
def dV (tm : Nat → Nat → Nat → Int) (cl : Nat → Bool) (E B n : Nat) : Nat → Nat → Int
  | 0, _ => 0
  | k + 1, u => (bp (fun x => tm (n - (k + 1)) u x + dV tm cl E B n k (u + x)) (mr cl E B u (n - (k + 1)))).1
def dK (tm : Nat → Nat → Nat → Int) (cl : Nat → Bool) (E B n k u : Nat) : Nat := (bp (fun x => tm (n - (k + 1)) u x + dV tm cl E B n k (u + x)) (mr cl E B u (n - (k + 1)))).2
def pl (tm : Nat → Nat → Nat → Int) (cl : Nat → Bool) (E B n : Nat) : Nat → (Nat → Nat) → (Nat → Nat)
  | 0, h => h
  | k + 1, h => pl tm cl E B n k (uh h (n - (k + 1)) (dK tm cl E B n k (psm h (n - (k + 1)))))
def FI (tm : Nat → Nat → Nat → Int) (n : Nat) (h : Nat → Nat) (a : Int × (Nat → Nat)) : Int × (Nat → Nat) := if sc tm h n ≤ a.1 then a else (sc tm h n, h)
theorem sc_u {tm : Nat → Nat → Nat → Int} {h : Nat → Nat} {i x : Nat} : ∀ k, k ≤ i → sc tm (uh h i x) k = sc tm h k := by
  intro k
  induction k with
  | zero => intro _; rfl
  | succ k ih =>
    intro hk
    show sc tm (uh h i x) k + tm k (psm (uh h i x) k) (uh h i x k) = sc tm h k + tm k (psm h k) (h k)
    rw [ih (by omega), psm_u k (by omega)]
    unfold uh
    rw [if_neg (by omega)]
theorem vis_best {tm : Nat → Nat → Nat → Int} {cl : Nat → Bool} {E B n : Nat} : ∀ k, k ≤ n → ∀ (h : Nat → Nat) (g : Int) (b : Nat → Nat), vis (FI tm n) cl E B n k h (g, b) = if sc tm h (n - k) + dV tm cl E B n k (psm h (n - k)) ≤ g then (g, b) else (sc tm h (n - k) + dV tm cl E B n k (psm h (n - k)), pl tm cl E B n k h) := by
  intro k
  induction k with
  | zero =>
    intro _ h g b
    show FI tm n h (g, b) = if sc tm h n + 0 ≤ g then (g, b) else (sc tm h n + 0, h)
    rw [Int.add_zero]
    rfl
  | succ k ih =>
    intro hk h g b
    obtain ⟨i, hi⟩ : ∃ i, i = n - (k + 1) := ⟨_, rfl⟩
    have hi1 : n - k = i + 1 := by omega
    rw [vis, pl, dV, dK, ← hi]
    generalize hM : mr cl E B (psm h i) i = M
    clear hM
    have one : ∀ x g b, vis (FI tm n) cl E B n k (uh h i x) (g, b) = if sc tm h i + (tm i (psm h i) x + dV tm cl E B n k (psm h i + x)) ≤ g then (g, b) else (sc tm h i + (tm i (psm h i) x + dV tm cl E B n k (psm h i + x)), pl tm cl E B n k (uh h i x)) := by
      intro x g b
      have e1 : sc tm (uh h i x) (i + 1) = sc tm h i + tm i (psm h i) x := by
        show sc tm (uh h i x) i + tm i (psm (uh h i x) i) (uh h i x i) = _
        rw [sc_u i (Nat.le_refl _), psm_u i (Nat.le_refl _), uh_s]
      have e2 : psm (uh h i x) (i + 1) = psm h i + x := by
        show psm (uh h i x) i + uh h i x i = _
        rw [psm_u i (Nat.le_refl _), uh_s]
      rw [ih (by omega), hi1, e1, e2, Int.add_assoc]
    generalize hf : (fun x => tm i (psm h i) x + dV tm cl E B n k (psm h i + x)) = f
    have one' : ∀ x g b, vis (FI tm n) cl E B n k (uh h i x) (g, b) = if sc tm h i + f x ≤ g then (g, b) else (sc tm h i + f x, pl tm cl E B n k (uh h i x)) := by
      intro x g b
      rw [one, ← hf]
    clear one hf
    induction M with
    | zero => exact one' 0 g b
    | succ x ihx =>
      rw [lp_s, ihx, bp]
      by_cases c1 : f (x + 1) ≤ (bp f x).1
      · rw [if_pos c1]
        by_cases c2 : sc tm h i + (bp f x).1 ≤ g
        · rw [if_pos c2, one', if_pos (by omega)]
        · rw [if_neg c2, one', if_pos (by omega)]
      · rw [if_neg c1]
        by_cases c2 : sc tm h i + (bp f x).1 ≤ g
        · rw [if_pos c2, one']
        · rw [if_neg c2, one', if_neg (by omega), if_neg (by show ¬ (sc tm h i + f (x + 1) ≤ g); omega)]
