/-- Pascal's triangle -/
def ch : Nat → Nat → Nat
  | _, 0 => 1
  | 0, _ + 1 => 0
  | a + 1, k + 1 => ch a k + ch a (k + 1)
def rk (D : Nat → Nat) : Nat → Nat
  | 0 => 0
  | n + 1 => rk D n + ch (D n + n) (n + 1)
theorem ch_lo : ∀ k a, a < k → ch a k = 0 := by
  intro k
  induction k with
  | zero => intro a h; omega
  | succ k ih =>
    intro a h
    have key : ∀ a, a ≤ k → ch a (k + 1) = 0 := by
      intro a
      induction a with
      | zero => intro _; rfl
      | succ a iha => intro ha; rw [ch, ih a (by omega), iha (by omega)]
    exact key a (by omega)
theorem ch_mono (k : Nat) : ∀ a b, a ≤ b → ch a k ≤ ch b k := by
  intro a b
  induction b with
  | zero => intro h; rw [show a = 0 by omega]; exact Nat.le_refl _
  | succ b ih =>
    intro h
    by_cases e : a = b + 1
    · rw [e]; exact Nat.le_refl _
    · have h1 := ih (by omega)
      cases k with
      | zero => cases a <;> exact Nat.le_refl _
      | succ k =>
        rw [show ch (b + 1) (k + 1) = ch b k + ch b (k + 1) from rfl]
        omega
theorem rk_all (d : Nat) : ∀ n, rk (fun _ => d) n + 1 = ch (d + n) n := by
  intro n
  induction n with
  | zero => cases d <;> rfl
  | succ n ih =>
    rw [rk, show d + (n + 1) = (d + n) + 1 from rfl, ch, ← ih]
    omega
theorem rk_le {D D2 : Nat → Nat} : ∀ n, (∀ s, s < n → D s ≤ D2 s) → rk D n ≤ rk D2 n := by
  intro n
  induction n with
  | zero => intro _; exact Nat.le_refl _
  | succ n ih =>
    intro h
    rw [rk, rk]
    have h1 := ih (fun s hs => h s (by omega))
    have h2 := ch_mono (n + 1) (D n + n) (D2 n + n) (by have := h n (by omega); omega)
    omega
theorem rk_lt {D : Nat → Nat} {d n : Nat} (h : ∀ s, s < n → D s ≤ d) : rk D n < ch (d + n) n := by
  have h1 := rk_le (D := D) (D2 := fun _ => d) n h
  have h2 := rk_all d n
  omega
/-- rows of delays that don't fall -/
def MN (n : Nat) (D : Nat → Nat) : Prop := ∀ s t, s ≤ t → t < n → D s ≤ D t
theorem rk_inj {D D2 : Nat → Nat} : ∀ n, MN n D → MN n D2 → rk D n = rk D2 n → ∀ s, s < n → D s = D2 s := by
  intro n
  induction n with
  | zero => intro _ _ _ s hs; omega
  | succ n ih =>
    intro h1 h2 e s hs
    have key : ∀ X Y : Nat → Nat, MN (n + 1) X → X n < Y n → rk X (n + 1) < rk Y (n + 1) := by
      intro X Y hX hlt
      have a1 := rk_lt (D := X) (d := X n) (n := n + 1) (fun s hs => hX s n (by omega) (by omega))
      have a2 := ch_mono (n + 1) (X n + (n + 1)) (Y n + n) (by omega)
      have a3 : rk Y (n + 1) = rk Y n + ch (Y n + n) (n + 1) := rfl
      omega
    have en : D n = D2 n := by
      rcases Nat.lt_trichotomy (D n) (D2 n) with q | q | q
      · have := key D D2 h1 q; omega
      · exact q
      · have := key D2 D h2 q; omega
    by_cases q : s = n
    · rw [q]; exact en
    · rw [rk, rk, en] at e
      exact ih (fun a b hab hb => h1 a b hab (by omega)) (fun a b hab hb => h2 a b hab (by omega)) (by omega) s (by omega)
theorem rk_cg {D D2 : Nat → Nat} : ∀ n, (∀ s, s < n → D s = D2 s) → rk D n = rk D2 n := by
  intro n
  induction n with
  | zero => intro _; rfl
  | succ n ih => intro h; rw [rk, rk, ih (fun s hs => h s (by omega)), h n (by omega)]
theorem rk_split {D D2 : Nat → Nat} {m : Nat} : ∀ n, m ≤ n → (∀ t, m ≤ t → D t = D2 t) → rk D n + rk D2 m = rk D2 n + rk D m := by
  intro n
  induction n with
  | zero => intro h _; obtain rfl : m = 0 := by omega
            rfl
  | succ n ih =>
    intro h1 h2
    by_cases e : m = n + 1
    · subst e; exact Nat.add_comm _ _
    · have := ih (by omega) h2
      rw [rk, rk, h2 n (by omega)]
      omega
/-- the number of the row with one breath more at a stop -/
theorem rk_up {D : Nat → Nat} {n s : Nat} (hs : s < n) : rk (up D s) n = rk (up D (s + 1)) n + ch (D s + s) s := by
  have h1 := rk_split (D := up D s) (D2 := up D (s + 1)) (m := s + 1) n (by omega) (fun t ht => by unfold up; rw [if_pos (by omega), if_pos (by omega)])
  rw [rk, rk, rk_cg (D := up D s) (D2 := up D (s + 1)) s (fun t ht => by unfold up; rw [if_neg (by omega), if_neg (by omega)])] at h1
  have e1 : up D s s = D s + 1 := by unfold up; rw [if_pos (Nat.le_refl _)]
  have e2 : up D (s + 1) s = D s := by unfold up; rw [if_neg (by omega)]
  rw [e1, e2, show D s + 1 + s = D s + s + 1 by omega, ch] at h1
  omega
theorem rk_upn (D : Nat → Nat) (n : Nat) : rk (up D n) n = rk D n := rk_cg n (fun t ht => by unfold up; rw [if_neg (by omega)])
/-- the row whose number is one lower: s is the first stop with a delay -/
def dn (D : Nat → Nat) (s : Nat) : Nat → Nat := fun t => if t ≤ s then D s - 1 else D t
theorem rk_dn {D : Nat → Nat} {n s : Nat} (hs : s < n) (h0 : ∀ t, t < s → D t = 0) (h1 : 0 < D s) : rk (dn D s) n + 1 = rk D n := by
  have a1 := rk_split (D := dn D s) (D2 := D) (m := s + 1) n (by omega) (fun t ht => by unfold dn; rw [if_neg (by omega)])
  have a2 : rk (dn D s) (s + 1) = rk (fun _ => D s - 1) (s + 1) := rk_cg _ (fun t ht => by unfold dn; rw [if_pos (by omega)])
  have a3 := rk_all (D s - 1) (s + 1)
  have a4 : rk D s = 0 := by
    have : ∀ m, m ≤ s → rk D m = 0 := by
      intro m
      induction m with
      | zero => intro _; rfl
      | succ m ih => intro hm; rw [rk, ih (by omega), h0 m (by omega), ch_lo (m + 1) (0 + m) (by omega)]
    exact this s (Nat.le_refl _)
  rw [rk, a4] at a1
  rw [a2] at a1
  rw [show D s - 1 + (s + 1) = D s + s by omega] at a3
  omega
theorem rk_0 {D : Nat → Nat} {n : Nat} (h0 : ∀ t, t < n → D t = 0) : rk D n = 0 := by
  have : ∀ m, m ≤ n → rk D m = 0 := by
    intro m
    induction m with
    | zero => intro _; rfl
    | succ m ih => intro hm; rw [rk, ih (by omega), h0 m (by omega), ch_lo (m + 1) (0 + m) (by omega)]
  exact this n (Nat.le_refl _)
