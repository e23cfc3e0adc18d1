/-! folds over all holds side by side; sums -/
theorem lp_rel {α β : Type} {R : α → β → Prop} {f : Nat → α → α} {g : Nat → β → β} : ∀ M, (∀ x a b, x < M → R a b → R (f x a) (g x b)) → ∀ a b, R a b → R (lp M f a) (lp M g b) := by
  intro M
  induction M with
  | zero => intro _ a b h; exact h
  | succ M ih =>
    intro hs a b h
    exact hs M _ _ (by omega) (ih (fun x a b hx => hs x a b (by omega)) a b h)
theorem vis_rel {α β : Type} {F : (Nat → Nat) → α → α} {F2 : (Nat → Nat) → β → β} {cl : Nat → Bool} {E B n : Nat} {R : α → β → Prop} (hF : ∀ h a b, VH cl E B n h → R a b → R (F h a) (F2 h b)) :
    ∀ k, k ≤ n → ∀ h a b, (∀ j, h j ≤ E) → (∀ j, cl j = true → h j = 0) → (∀ j, n - k ≤ j → h j = 0) → psm h (n - k) ≤ B → R a b → R (vis F cl E B n k h a) (vis F2 cl E B n k h b) := by
  intro k
  induction k with
  | zero =>
    intro _ h a b h1 h2 h3 h4 hr
    exact hF h a b ⟨h1, h2, h3, h4⟩ hr
  | succ k ih =>
    intro hk h a b h1 h2 h3 h4 hr
    obtain ⟨i, hi⟩ : ∃ i, i = n - (k + 1) := ⟨_, rfl⟩
    have hi1 : n - k = i + 1 := by omega
    rw [vis, vis, ← hi]
    rw [← hi] at h3 h4
    have hM := mr_le cl E B (psm h i) i
    have hMc : cl i = true → mr cl E B (psm h i) i = 0 := fun e => by unfold mr; rw [if_pos e]
    refine lp_rel _ (fun x a b hx hab => ih (by omega) (uh h i x) a b (fun j => ?_) (fun j hj => ?_) (fun j hj => ?_) ?_ hab) a b hr
    · unfold uh
      by_cases e : j = i
      · rw [if_pos e]; omega
      · rw [if_neg e]; exact h1 j
    · unfold uh
      by_cases e : j = i
      · rw [if_pos e]; rw [e] at hj; have := hMc hj; omega
      · rw [if_neg e]; exact h2 j hj
    · unfold uh
      rw [if_neg (by omega)]; exact h3 j (by omega)
    · rw [hi1]
      show psm (uh h i x) i + uh h i x i ≤ B
      rw [psm_u i (Nat.le_refl _), uh_s]; omega
theorem vis_rel0 {α β : Type} {F : (Nat → Nat) → α → α} {F2 : (Nat → Nat) → β → β} {cl : Nat → Bool} {E B n : Nat} {R : α → β → Prop} (hF : ∀ h a b, VH cl E B n h → R a b → R (F h a) (F2 h b)) {a : α} {b : β} (hr : R a b) : R (vis F cl E B n n (fun _ => 0) a) (vis F2 cl E B n n (fun _ => 0) b) :=
  vis_rel hF n (Nat.le_refl _) (fun _ => 0) a b (fun _ => Nat.zero_le _) (fun _ _ => rfl) (fun _ _ => rfl) (by rw [Nat.sub_self]; exact Nat.zero_le _) hr
def sm (n : Nat) (f : Nat → Int) : Int := lp n (fun i a => a + f i) 0
theorem sm_s (n : Nat) (f : Nat → Int) : sm (n + 1) f = sm n f + f n := rfl
theorem sm_cg {f g : Nat → Int} : ∀ n, (∀ i, i < n → f i = g i) → sm n f = sm n g := by
  intro n
  induction n with
  | zero => intro _; rfl
  | succ n ih => intro h; rw [sm_s, sm_s, ih (fun i hi => h i (by omega)), h n (by omega)]
theorem sm_0 : ∀ n, sm n (fun _ => 0) = 0 := by
  intro n
  induction n with
  | zero => rfl
  | succ n ih => rw [sm_s, ih]; rfl
theorem sm_add (f g : Nat → Int) : ∀ n, sm n (fun i => f i + g i) = sm n f + sm n g := by
  intro n
  induction n with
  | zero => rfl
  | succ n ih => rw [sm_s, sm_s, sm_s, ih]; omega
theorem sm_swap (f : Nat → Nat → Int) (m : Nat) : ∀ n, sm n (fun s => sm m (fun p => f s p)) = sm m (fun p => sm n (fun s => f s p)) := by
  intro n
  induction n with
  | zero => exact (sm_0 m).symm
  | succ n ih =>
    rw [sm_s, ih, ← sm_add]
    rfl
theorem sm_pick (a : Nat) (f : Nat → Int) : ∀ n, sm n (fun s => if a = s then f s else 0) = if a < n then f a else 0 := by
  intro n
  induction n with
  | zero => rfl
  | succ n ih =>
    rw [sm_s, ih]
    by_cases h : a = n
    · rw [if_pos h, if_neg (by omega), if_pos (by omega), h]; omega
    · rw [if_neg h]
      by_cases h2 : a < n
      · rw [if_pos h2, if_pos (by omega)]; omega
      · rw [if_neg h2, if_neg (by omega)]; rfl
theorem sm_bd {f : Nat → Int} {b : Int} : ∀ n : Nat, (∀ i, i < n → -b ≤ f i ∧ f i ≤ b) → -(b * (n : Int)) ≤ sm n f ∧ sm n f ≤ b * (n : Int) := by
  intro n
  induction n with
  | zero => intro _; rw [show sm 0 f = 0 from rfl]; simp
  | succ n ih =>
    intro h
    have h1 := ih (fun i hi => h i (by omega))
    have h2 := h n (by omega)
    rw [sm_s, show ((n + 1 : Nat) : Int) = (n : Int) + 1 from rfl, Int.mul_add, Int.mul_one]
    omega
theorem dl_psm {cl : Nat → Bool} {h : Nat → Nat} (hc : ∀ j, cl j = true → h j = 0) : ∀ s, dlS cl h s = psm h s := by
  intro s
  induction s with
  | zero => rfl
  | succ s ih =>
    show dlS cl h s + (if cl s then 0 else h s) = psm h s + h s
    rw [ih]
    cases e : cl s with
    | true => rw [hc s e]; rfl
    | false => rfl
/-- does a person ride by a delay at the stop -/
def rq (c : SS) (p d : Nat) : Bool := rdB c (bt (c.1 2)) (fun _ => d) 0 p
theorem rdH_q {c : SS} {h : Nat → Nat} (hc : ∀ j, bt (c.1 2) j = true → h j = 0) (p : Nat) : rdH c h p = rq c p (psm h (va c p + 1)) := by
  unfold rdH rq rdB dly
  rw [dl_psm hc]
theorem need_q {c : SS} (hW : WOK c) {p d : Nat} (hp : p < 8) (hd : d ≤ 99) : (nI d < ndv c (bt (c.1 2)) p) ↔ rq c p d = false := by
  have := nd_le hW (bt (c.1 2)) (p := p) (late := 0) (x := d) hp (by omega) hd (fun _ _ => trivial)
  rw [show ndv c (bt (c.1 2)) p + nI 0 = ndv c (bt (c.1 2)) p from Int32.add_zero _] at this
  rw [this]
  unfold rq rdB
  cases bt (c.1 5) p <;> cases bt (c.1 2) (va c p) <;> simp
/-- what one person brings by a delay -/
def pv (c : SS) (p : Nat) (r : Bool) : Int := if r then (c.2 4 p).toInt else (c.2 5 p).toInt
theorem pv_bd {c : SS} (hW : WOK c) {p : Nat} (hp : p < 8) (r : Bool) : -9 ≤ pv c p r ∧ pv c p r ≤ 9 := by
  obtain ⟨-, -, ⟨g6, g7, -⟩, -⟩ := hW.2.2.2.2.2.2.2.2 p hp
  unfold pv
  cases r with
  | true => exact g6
  | false => exact g7
def gGn (c : SS) (q : Nat → Bool) (i s d : Nat) : Int := sm i (fun p => if va c p = s then (if q p then pv c p (rq c p d) else 0) else 0)
def gG (c : SS) (q : Nat → Bool) (s d : Nat) : Int := gGn c q 8 s d
theorem gG_bd {c : SS} (hW : WOK c) (q : Nat → Bool) (s d : Nat) : -72 ≤ gG c q s d ∧ gG c q s d ≤ 72 := by
  have := sm_bd (f := fun p => if va c p = s then (if q p then pv c p (rq c p d) else 0) else 0) (b := 9) 8 (fun p hp => by
    have := pv_bd hW hp (rq c p d)
    show -9 ≤ (if va c p = s then (if q p then pv c p (rq c p d) else 0) else 0) ∧ (if va c p = s then (if q p then pv c p (rq c p d) else 0) else 0) ≤ 9
    split
    · split
      · exact this
      · omega
    · omega)
  exact this
theorem gG_cg {c : SS} {q q2 : Nat → Bool} (h : ∀ p, p < 8 → q p = q2 p) : gG c q = gG c q2 := by
  funext s d
  exact sm_cg 8 (fun p hp => by rw [h p hp])
theorem gdS_sm (c : SS) (q r : Nat → Bool) : gdS c q r = iI (sm 8 (fun p => if q p then pv c p (r p) else 0)) := by
  unfold gdS
  have key : ∀ n, lp n (fun p s => s + (if q p then (if r p then c.2 4 p else c.2 5 p) else 0)) 0 = iI (sm n (fun p => if q p then pv c p (r p) else 0)) := by
    intro n
    induction n with
    | zero => rfl
    | succ n ih =>
      rw [lp_s, ih, sm_s, ← iI_add]
      congr 1
      unfold pv
      cases q n with
      | true => cases r n <;> exact iI_of rfl
      | false => rfl
  exact key 8
theorem sc_sm (tm : Nat → Nat → Nat → Int) (h : Nat → Nat) : ∀ n, sc tm h n = sm n (fun s => tm s (psm h s) (h s)) := by
  intro n
  induction n with
  | zero => rfl
  | succ n ih => rw [sc, ih, sm_s]
/-- the good of a hold is the sum of its stops -/
theorem sc_good {c : SS} {q : Nat → Bool} {h : Nat → Nat} {n : Nat} (hc : ∀ j, bt (c.1 2) j = true → h j = 0) (hq : ∀ p, p < 8 → q p = true → va c p < n) : sc (tmG (gG c q) (fun _ => 0)) h n = sm 8 (fun p => if q p then pv c p (rdH c h p) else 0) := by
  rw [sc_sm]
  have e1 : sm n (fun s => tmG (gG c q) (fun _ => 0) s (psm h s) (h s)) = sm n (fun s => sm 8 (fun p => if va c p = s then (if q p then pv c p (rq c p (psm h (s + 1))) else 0) else 0)) := sm_cg n (fun s _ => by
    show gG c q s (psm h s + h s) + 0 * ((h s : Nat) : Int) = _
    rw [Int.zero_mul, Int.add_zero]
    rfl)
  rw [e1, sm_swap]
  refine sm_cg 8 (fun p hp => ?_)
  rw [sm_pick (va c p) (fun s => if q p then pv c p (rq c p (psm h (s + 1))) else 0) n]
  cases e : q p with
  | true => rw [if_pos (hq p hp e), rdH_q hc]
  | false =>
    split <;> rfl
