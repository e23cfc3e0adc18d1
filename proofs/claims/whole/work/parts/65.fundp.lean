/-! fund: at most so many breaths, exactly so many -/
theorem bp_first (f : Nat → Int) : ∀ M x, x < (bp f M).2 → f x < (bp f M).1 := by
  intro M
  induction M with
  | zero => intro x hx; exact absurd hx (by show ¬ x < 0; omega)
  | succ M ih =>
    intro x hx
    rw [bp] at hx ⊢
    by_cases h : f (M + 1) ≤ (bp f M).1
    · rw [if_pos h] at hx ⊢; exact ih x hx
    · rw [if_neg h] at hx ⊢
      have hx' : x < M + 1 := hx
      show f x < f (M + 1)
      have := bp_ub f M x (by omega)
      omega
theorem bp_eq {f : Nat → Int} {M : Nat} {v : Int} (h1 : ∀ x, x ≤ M → f x ≤ v) (h2 : ∃ x, x ≤ M ∧ v ≤ f x) : (bp f M).1 = v := by
  obtain ⟨x, x1, x2⟩ := h2
  have a := bp_ub f M x x1
  have b := h1 _ (bp_le f M)
  rw [← bp_att f M] at b
  omega
/-- the best by exactly d breaths at the first s stops -/
def xS (G : Nat → Nat → Int) (cl : Nat → Bool) (E : Nat) : Nat → Nat → Int
  | 0, d => if d = 0 then 0 else -1000000
  | s + 1, d => (bp (fun b => xS G cl E s (d - b)) (mr cl E d 0 s)).1 + G s d
theorem xS_bd {G : Nat → Nat → Int} (hG : ∀ s d, -72 ≤ G s d ∧ G s d ≤ 72) (cl : Nat → Bool) (E : Nat) : ∀ s d : Nat, -1000000 - 72 * (s : Int) ≤ xS G cl E s d ∧ xS G cl E s d ≤ 72 * (s : Int) := by
  intro s
  induction s with
  | zero => intro d; rw [xS]; split <;> omega
  | succ s ih =>
    intro d
    rw [xS]
    have h1 := bp_bd (f := fun b => xS G cl E s (d - b)) (mr cl E d 0 s) (fun x _ => ih (d - x))
    have h2 := hG s d
    omega
theorem fwd {G : Nat → Nat → Int} (hG : ∀ s d, -72 ≤ G s d ∧ G s d ≤ 72) {cl : Nat → Bool} {E u n : Nat} (hn : n ≤ 6) : (bp (xS G cl E n) u).1 = dV (tmG G (fun _ => 0)) cl E u n n 0 := by
  have hb : ∀ k d, k ≤ 6 → -432 ≤ dV (tmG G (fun _ => 0)) cl E u n k d ∧ dV (tmG G (fun _ => 0)) cl E u n k d ≤ 432 := fun k d hk => by
    have := dV_b2 (tm := tmG G (fun _ => 0)) (b := 72) (cl := cl) (E := E) (B := u) (n := n) (fun s v x _ => by
      have := hG s (v + x)
      show -72 ≤ G s (v + x) + 0 * (x : Int) ∧ G s (v + x) + 0 * (x : Int) ≤ 72
      omega) k d
    omega
  have key : ∀ s, s ≤ n → (∀ d, d ≤ u → xS G cl E s d + dV (tmG G (fun _ => 0)) cl E u n (n - s) d ≤ dV (tmG G (fun _ => 0)) cl E u n n 0) ∧ ∃ d, d ≤ u ∧ dV (tmG G (fun _ => 0)) cl E u n n 0 ≤ xS G cl E s d + dV (tmG G (fun _ => 0)) cl E u n (n - s) d := by
    intro s
    induction s with
    | zero =>
      intro _
      refine ⟨fun d hd => ?_, 0, Nat.zero_le _, ?_⟩
      · rw [xS, Nat.sub_zero]
        by_cases e : d = 0
        · rw [if_pos e, e]; omega
        · rw [if_neg e]
          have := hb n d hn
          have := hb n 0 hn
          omega
      · rw [xS, if_pos rfl, Nat.sub_zero]; omega
    | succ s ih =>
      intro hs
      obtain ⟨h1, h2⟩ := ih (by omega)
      have e : n - s = (n - (s + 1)) + 1 := by omega
      have es : n - ((n - (s + 1)) + 1) = s := by omega
      have step : ∀ d x, x ≤ mr cl E u d s → G s (d + x) + dV (tmG G (fun _ => 0)) cl E u n (n - (s + 1)) (d + x) ≤ dV (tmG G (fun _ => 0)) cl E u n (n - s) d := by
        intro d x hx
        rw [e, dV, es]
        have := bp_ub (fun x => tmG G (fun _ => 0) s d x + dV (tmG G (fun _ => 0)) cl E u n (n - (s + 1)) (d + x)) (mr cl E u d s) x hx
        have this' : G s (d + x) + 0 * (x : Int) + dV (tmG G (fun _ => 0)) cl E u n (n - (s + 1)) (d + x) ≤ _ := this
        omega
      refine ⟨fun d hd => ?_, ?_⟩
      · rw [xS]
        have a1 := bp_att (fun b => xS G cl E s (d - b)) (mr cl E d 0 s)
        have a2 := bp_le (fun b => xS G cl E s (d - b)) (mr cl E d 0 s)
        generalize hbb : (bp (fun b => xS G cl E s (d - b)) (mr cl E d 0 s)).2 = b at a1 a2
        have a3 := mr_le cl E d 0 s
        rw [a1]
        have g1 := h1 (d - b) (by omega)
        have g2 := step (d - b) b (by
          unfold mr at a2 ⊢
          cases hc : cl s with
          | true => rw [hc] at a2; exact a2
          | false =>
            rw [hc] at a2
            simp only [Bool.false_eq_true, if_false] at a2 ⊢
            omega)
        rw [show d - b + b = d by omega] at g2
        show xS G cl E s (d - b) + G s d + _ ≤ _
        omega
      · obtain ⟨d, d1, d2⟩ := h2
        rw [e, dV, es] at d2
        have a1 := bp_att (fun x => tmG G (fun _ => 0) s d x + dV (tmG G (fun _ => 0)) cl E u n (n - (s + 1)) (d + x)) (mr cl E u d s)
        have a2 := bp_le (fun x => tmG G (fun _ => 0) s d x + dV (tmG G (fun _ => 0)) cl E u n (n - (s + 1)) (d + x)) (mr cl E u d s)
        rw [a1] at d2
        generalize (bp (fun x => tmG G (fun _ => 0) s d x + dV (tmG G (fun _ => 0)) cl E u n (n - (s + 1)) (d + x)) (mr cl E u d s)).2 = x at a2 d2
        have d2' : dV (tmG G (fun _ => 0)) cl E u n n 0 ≤ xS G cl E s d + (G s (d + x) + 0 * (x : Int) + dV (tmG G (fun _ => 0)) cl E u n (n - (s + 1)) (d + x)) := d2
        have a3 := mr_le cl E u d s
        refine ⟨d + x, by omega, ?_⟩
        rw [xS]
        have := bp_ub (fun b => xS G cl E s (d + x - b)) (mr cl E (d + x) 0 s) x (by
          unfold mr at a2 ⊢
          cases hc : cl s with
          | true => rw [hc] at a2; exact a2
          | false =>
            rw [hc] at a2
            simp only [Bool.false_eq_true, if_false] at a2 ⊢
            omega)
        have this' : xS G cl E s (d + x - x) ≤ (bp (fun b => xS G cl E s (d + x - b)) (mr cl E (d + x) 0 s)).1 := this
        rw [show d + x - x = d by omega] at this'
        omega
  obtain ⟨h1, d, h2, h3⟩ := key n (Nat.le_refl _)
  rw [Nat.sub_self] at h1 h3
  refine bp_eq (fun x hx => ?_) ⟨d, h2, ?_⟩
  · have := h1 x hx
    rw [dV] at this
    omega
  · rw [dV] at h3
    omega
/-- what nights to come bring: f by breaths of a night, with so much left -/
def oW (f : Nat → Nat → Int) (B m : Nat) : Nat → Nat → Int
  | 0, _ => 0
  | j + 1, l => (bp (fun b => f (m - (j + 1)) b + oW f B m j (l - b)) (min B l)).1
theorem oW_mono (f : Nat → Nat → Int) (B m : Nat) : ∀ j l l2, l ≤ l2 → oW f B m j l ≤ oW f B m j l2 := by
  intro j
  induction j with
  | zero => intro l l2 _; exact Int.le_refl _
  | succ j ih =>
    intro l l2 h
    rw [oW, oW]
    have a1 := bp_att (fun b => f (m - (j + 1)) b + oW f B m j (l - b)) (min B l)
    have a2 := bp_le (fun b => f (m - (j + 1)) b + oW f B m j (l - b)) (min B l)
    rw [a1]
    generalize (bp (fun b => f (m - (j + 1)) b + oW f B m j (l - b)) (min B l)).2 = b at a2
    have a3 := bp_ub (fun b => f (m - (j + 1)) b + oW f B m j (l2 - b)) (min B l2) b (by omega)
    have a3' : f (m - (j + 1)) b + oW f B m j (l2 - b) ≤ _ := a3
    have := ih (l - b) (l2 - b) (by omega)
    show f (m - (j + 1)) b + oW f B m j (l - b) ≤ _
    omega
theorem oW_bd {f : Nat → Nat → Int} {b : Int} {B m : Nat} (hf : ∀ k u, u ≤ B → f k u ≤ b) (h0 : ∀ k, -b ≤ f k 0) : ∀ j l : Nat, -(b * (j : Int)) ≤ oW f B m j l ∧ oW f B m j l ≤ b * (j : Int) := by
  intro j
  induction j with
  | zero => intro l; show -(b * ((0 : Nat) : Int)) ≤ 0 ∧ 0 ≤ b * ((0 : Nat) : Int); simp
  | succ j ih =>
    intro l
    rw [oW, show ((j + 1 : Nat) : Int) = (j : Int) + 1 from rfl, Int.mul_add, Int.mul_one]
    constructor
    · have a3 := bp_ub (fun b => f (m - (j + 1)) b + oW f B m j (l - b)) (min B l) 0 (Nat.zero_le _)
      have a3' : f (m - (j + 1)) 0 + oW f B m j (l - 0) ≤ _ := a3
      have := h0 (m - (j + 1))
      have := (ih (l - 0)).1
      omega
    · have a1 := bp_att (fun b => f (m - (j + 1)) b + oW f B m j (l - b)) (min B l)
      have a2 := bp_le (fun b => f (m - (j + 1)) b + oW f B m j (l - b)) (min B l)
      rw [a1]
      generalize (bp (fun b => f (m - (j + 1)) b + oW f B m j (l - b)) (min B l)).2 = x at a2
      have := hf (m - (j + 1)) x (by omega)
      have := (ih (l - x)).2
      show f (m - (j + 1)) x + oW f B m j (l - x) ≤ _
      omega
/-- how many breaths a night takes -/
def pW (f : Nat → Nat → Int) (B m j l : Nat) : Nat := (bp (fun b => f (m - (j + 1)) b + oW f B m j (l - b)) (min B l)).2
theorem two_eq {a x : Nat → Nat → Int} {B m : Nat} (h : ∀ k u, u ≤ B → (bp (x k) u).1 = a k u) : ∀ j l, oW x B m j l = oW a B m j l := by
  intro j
  induction j with
  | zero => intro l; rfl
  | succ j ih =>
    intro l
    rw [oW, oW]
    refine bp_eq (fun b hb => ?_) ?_
    · have a1 := bp_ub (fun b => a (m - (j + 1)) b + oW a B m j (l - b)) (min B l) b hb
      have a1' : a (m - (j + 1)) b + oW a B m j (l - b) ≤ _ := a1
      have a2 := bp_ub (x (m - (j + 1))) b b (Nat.le_refl _)
      rw [h (m - (j + 1)) b (by omega)] at a2
      rw [ih]
      omega
    · have a1 := bp_att (fun b => a (m - (j + 1)) b + oW a B m j (l - b)) (min B l)
      have a2 := bp_le (fun b => a (m - (j + 1)) b + oW a B m j (l - b)) (min B l)
      rw [a1]
      generalize (bp (fun b => a (m - (j + 1)) b + oW a B m j (l - b)) (min B l)).2 = u at a2
      have b1 := bp_att (x (m - (j + 1))) u
      have b2 := bp_le (x (m - (j + 1))) u
      rw [h (m - (j + 1)) u (by omega)] at b1
      refine ⟨(bp (x (m - (j + 1))) u).2, by omega, ?_⟩
      rw [ih, ← b1]
      have := oW_mono a B m j (l - u) (l - (bp (x (m - (j + 1))) u).2) (by omega)
      show a (m - (j + 1)) u + oW a B m j (l - u) ≤ _
      omega
theorem two_pick {a x : Nat → Nat → Int} {B m : Nat} (h : ∀ k u, u ≤ B → (bp (x k) u).1 = a k u) (j l : Nat) : pW x B m j l ≤ min B l ∧ a (m - (j + 1)) (pW x B m j l) + oW a B m j (l - pW x B m j l) = oW a B m (j + 1) l ∧ ∀ u, u < pW x B m j l → a (m - (j + 1)) u + oW a B m j (l - u) ≠ oW a B m (j + 1) l := by
  have e := two_eq h (m := m) (j + 1) l
  rw [oW] at e
  have p1 := bp_le (fun b => x (m - (j + 1)) b + oW x B m j (l - b)) (min B l)
  have p2 := bp_att (fun b => x (m - (j + 1)) b + oW x B m j (l - b)) (min B l)
  have p3 := bp_first (fun b => x (m - (j + 1)) b + oW x B m j (l - b)) (min B l)
  rw [e] at p2 p3
  have p0 : (bp (fun b => x (m - (j + 1)) b + oW x B m j (l - b)) (min B l)).2 = pW x B m j l := rfl
  rw [p0] at p1 p2 p3
  have ub : ∀ u, u ≤ min B l → a (m - (j + 1)) u + oW a B m j (l - u) ≤ oW a B m (j + 1) l := fun u hu => by
    rw [oW]
    exact bp_ub (fun b => a (m - (j + 1)) b + oW a B m j (l - b)) (min B l) u hu
  refine ⟨p1, ?_, fun u hu q => ?_⟩
  · have a2 := bp_ub (x (m - (j + 1))) (pW x B m j l) (pW x B m j l) (Nat.le_refl _)
    rw [h (m - (j + 1)) _ (by omega)] at a2
    have p2' : oW a B m (j + 1) l = x (m - (j + 1)) (pW x B m j l) + oW x B m j (l - pW x B m j l) := p2
    rw [two_eq h] at p2'
    have := ub _ p1
    omega
  · have b1 := bp_att (x (m - (j + 1))) u
    have b2 := bp_le (x (m - (j + 1))) u
    rw [h (m - (j + 1)) u (by omega)] at b1
    have p4 := p3 (bp (x (m - (j + 1))) u).2 (by omega)
    have p4' : x (m - (j + 1)) (bp (x (m - (j + 1))) u).2 + oW x B m j (l - (bp (x (m - (j + 1))) u).2) < oW a B m (j + 1) l := p4
    rw [two_eq h, ← b1] at p4'
    have := oW_mono a B m j (l - u) (l - (bp (x (m - (j + 1))) u).2) (by omega)
    omega
