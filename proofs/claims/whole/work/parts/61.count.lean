/-! holds that fit what was seen: how many, and which is least in something -/
theorem vis_pair {α β : Type} {F : (Nat → Nat) → α → α} {G : (Nat → Nat) → β → β} {cl : Nat → Bool} {E B n : Nat} (a : α) (b : β) : vis (fun h (q : α × β) => (F h q.1, G h q.2)) cl E B n n (fun _ => 0) (a, b) = (vis F cl E B n n (fun _ => 0) a, vis G cl E B n n (fun _ => 0) b) := by
  have h1 := vis_rel0 (F := fun h (q : α × β) => (F h q.1, G h q.2)) (F2 := F) (cl := cl) (E := E) (B := B) (n := n) (R := fun q x => q.1 = x) (fun h q x _ e => by show F h q.1 = F h x; rw [e]) (a := (a, b)) (b := a) rfl
  have h2 := vis_rel0 (F := fun h (q : α × β) => (F h q.1, G h q.2)) (F2 := G) (cl := cl) (E := E) (B := B) (n := n) (R := fun q x => q.2 = x) (fun h q x _ e => by show G h q.2 = G h x; rw [e]) (a := (a, b)) (b := b) rfl
  exact Prod.ext h1 h2
def alk (ok : Nat → Nat → Bool) (h : Nat → Nat) : Nat → Bool
  | 0 => true
  | s + 1 => alk ok h s && ok s (psm h (s + 1))
def dC (ok : Nat → Nat → Bool) (cl : Nat → Bool) (E B n : Nat) : Nat → Nat → Nat
  | 0, _ => 1
  | k + 1, u => lp (mr cl E B u (n - (k + 1)) + 1) (fun x a => a + (if ok (n - (k + 1)) (u + x) then dC ok cl E B n k (u + x) else 0)) 0
theorem alk_u {ok : Nat → Nat → Bool} {h : Nat → Nat} {i x : Nat} : ∀ k, k ≤ i → alk ok (uh h i x) k = alk ok h k := by
  intro k
  induction k with
  | zero => intro _; rfl
  | succ k ih =>
    intro hk
    rw [alk, alk, ih (by omega), psm_u (k + 1) (by omega)]
theorem alk_i {ok : Nat → Nat → Bool} {h : Nat → Nat} : ∀ n, alk ok h n = true ↔ ∀ s, s < n → ok s (psm h (s + 1)) = true := by
  intro n
  induction n with
  | zero => exact ⟨fun _ s hs => absurd hs (by omega), fun _ => rfl⟩
  | succ n ih =>
    rw [alk, Bool.and_eq_true, ih]
    constructor
    · rintro ⟨h1, h2⟩ s hs
      by_cases e : s = n
      · rw [e]; exact h2
      · exact h1 s (by omega)
    · intro q
      exact ⟨fun s hs => q s (by omega), q n (by omega)⟩
theorem vis_cnt {ok : Nat → Nat → Bool} {cl : Nat → Bool} {E B n : Nat} : ∀ k, k ≤ n → ∀ (h : Nat → Nat) (a : Nat), vis (fun h a => if alk ok h n = true then a + 1 else a) cl E B n k h a = a + (if alk ok h (n - k) = true then dC ok cl E B n k (psm h (n - k)) else 0) := by
  intro k
  induction k with
  | zero =>
    intro _ h a
    show (if alk ok h n = true then a + 1 else a) = a + (if alk ok h n = true then 1 else 0)
    split <;> rfl
  | succ k ih =>
    intro hk h a
    obtain ⟨i, hi⟩ : ∃ i, i = n - (k + 1) := ⟨_, rfl⟩
    have hi1 : n - k = i + 1 := by omega
    rw [vis, dC, ← hi]
    have one : ∀ x a, vis (fun h a => if alk ok h n = true then a + 1 else a) cl E B n k (uh h i x) a = a + (if alk ok h i = true then (if ok i (psm h i + x) then dC ok cl E B n k (psm h i + x) else 0) else 0) := by
      intro x a
      have e2 : psm (uh h i x) (i + 1) = psm h i + x := by
        show psm (uh h i x) i + uh h i x i = _
        rw [psm_u i (Nat.le_refl _), uh_s]
      rw [ih (by omega), hi1, e2, alk, alk_u i (Nat.le_refl _), e2]
      cases alk ok h i <;> cases ok i (psm h i + x) <;> rfl
    generalize mr cl E B (psm h i) i + 1 = M
    cases e : alk ok h i with
    | false =>
      rw [e] at one
      induction M with
      | zero => rfl
      | succ M ihM => rw [lp_s, ihM, one]; rfl
    | true =>
      rw [e] at one
      rw [if_pos rfl]
      induction M with
      | zero => rfl
      | succ M ihM => rw [lp_s, ihM, one, if_pos rfl, lp_s, Nat.add_assoc]
theorem lp_mono {f g : Nat → Nat} : ∀ M, (∀ x, x < M → f x ≤ g x) → lp M (fun x s => s + f x) 0 ≤ lp M (fun x s => s + g x) 0 := by
  intro M
  induction M with
  | zero => intro _; exact Nat.le_refl _
  | succ M ih =>
    intro h
    rw [lp_s, lp_s]
    have h1 := ih (fun x hx => h x (by omega))
    have h2 := h M (by omega)
    omega
theorem dC_le (ok : Nat → Nat → Bool) (cl : Nat → Bool) (E B n : Nat) : ∀ k u, dC ok cl E B n k u ≤ tT k (B - u) := by
  intro k
  induction k with
  | zero => intro u; exact Nat.le_refl _
  | succ k ih =>
    intro u
    rw [dC, tT]
    refine Nat.le_trans (lp_mono _ (fun x hx => ?_)) (lp_le (fun x => tT k (B - u - x)) (by have := (mr_le cl E B u (n - (k + 1))).2; omega))
    split
    · have := ih (u + x)
      rw [Nat.sub_add_eq] at this
      exact this
    · exact Nat.zero_le _
def okS (c : SS) (ri wa : Int32) (s d : Nat) : Bool := !(badN c ri wa 8 s d)
theorem so_alk {c : SS} (hW : WOK c) {ri wa : Int32} (hs : SB c ri) {h : Nat → Nat} (hc : ∀ j, bt (c.1 2) j = true → h j = 0) : soH c ri wa h = alk (okS c ri wa) h (vn c) := by
  cases e : soH c ri wa h with
  | true =>
    refine ((alk_i _).mpr (fun s hs => ?_)).symm
    unfold okS
    cases e2 : badN c ri wa 8 s (psm h (s + 1)) with
    | false => rfl
    | true =>
      obtain ⟨p, p1, p2⟩ := (lp_or 8).mp e2
      rw [Bool.and_eq_true, decide_eq_true_eq] at p2
      have := soH_i.mp e p p1
      rw [rdH_q hc, p2.1, p2.2] at this
      cases this
  | false =>
    cases e2 : alk (okS c ri wa) h (vn c) with
    | false => rfl
    | true =>
      have h0 : sc (tmG (gS c ri wa) (fun _ => 0)) h (vn c) = 0 := by
        rw [sc_sm]
        refine Eq.trans (sm_cg _ (fun s hs => ?_)) (sm_0 (vn c))
        show gS c ri wa s (psm h s + h s) + 0 * ((h s : Nat) : Int) = 0
        have := (alk_i _).mp e2 s hs
        unfold okS at this
        rw [Bool.not_eq_true'] at this
        unfold gS
        rw [show psm h s + h s = psm h (s + 1) from rfl, this]
        simp
      have := (sc_set hW hs (wa := wa) hc (fun _ => 0)).2 e
      rw [h0] at this
      have h1 : sm (vn c) (fun s => (0 : Int) * (h s : Int)) = 0 := by
        exact Eq.trans (sm_cg _ (fun s _ => Int.zero_mul _)) (sm_0 (vn c))
      rw [h1] at this
      omega
def FC (c : SS) (ri wa : Int32) (h : Nat → Nat) (a : Nat) : Nat := if soH c ri wa h = true then a + 1 else a
def cC (c : SS) (ri wa : Int32) : Nat := dC (okS c ri wa) (bt (c.1 2)) (vE c) (vB c) (vn c) (vn c) 0
theorem cnt_eq {c : SS} (hW : WOK c) {ri wa : Int32} (hs : SB c ri) : vis (FC c ri wa) (bt (c.1 2)) (vE c) (vB c) (vn c) (vn c) (fun _ => 0) 0 = cC c ri wa ∧ cC c ri wa ≤ 8008 := by
  obtain ⟨⟨n1, n2, n3⟩, -, ⟨b1, b2⟩, -⟩ := id hW
  constructor
  · have h1 := vis_rel0 (F := FC c ri wa) (F2 := fun h a => if alk (okS c ri wa) h (vn c) = true then a + 1 else a) (cl := bt (c.1 2)) (E := vE c) (B := vB c) (n := vn c) (R := fun a b => a = b) (fun h a b hv e => by
      show FC c ri wa h a = _
      unfold FC
      rw [so_alk hW hs hv.2.1, e]) (a := 0) (b := 0) rfl
    rw [h1, vis_cnt (vn c) (Nat.le_refl _), Nat.sub_self, if_pos (show alk (okS c ri wa) (fun _ => 0) 0 = true from rfl), Nat.zero_add]
    rfl
  · exact Nat.le_trans (dC_le _ _ _ _ _ _ _) (tT_le ⟨vn c, by omega⟩ ⟨vB c, by omega⟩)
/-- the reference's walk in held: how many, fewest, least, greatest -/
abbrev QH : Type := Int32 × Int32 × Int32 × Int32
def FH (c : SS) (at_ : Nat) (h : Nat → Nat) (a : QH) : QH := if soH c (c.1 7) (c.1 8) h = true then (a.1 + 1, (if a.2.1 ≤ nI (psm h (vn c)) then a.2.1 else nI (psm h (vn c))), (if a.2.2.1 ≤ nI (h at_) then a.2.2.1 else nI (h at_)), (if nI (h at_) ≤ a.2.2.2 then a.2.2.2 else nI (h at_))) else a
def hvV (c : SS) (at_ : Nat) : QH := vis (FH c at_) (bt (c.1 2)) (vE c) (vB c) (vn c) (vn c) (fun _ => 0) (0, 1000000, 1000000, -6)
theorem held_gen {c : SS} (hW : WOK c) (hs : SB c (c.1 7)) (at_ : Nat) (w : Nat → Int) (val : (Nat → Nat) → Int) (hval : ∀ h, VH (bt (c.1 2)) (vE c) (vB c) (vn c) h → sm (vn c) (fun s => w s * (h s : Int)) = val h ∧ -10 ≤ val h ∧ val h ≤ 10) (π : QH → Int32) (U : (Nat → Nat) → Int32 → Int32) (ini : Int32) (hini : π (0, 1000000, 1000000, -6) = ini) (hπ : ∀ h a, soH c (c.1 7) (c.1 8) h = true → π (FH c at_ h a) = U h (π a)) (ρ : Int → Int32) (hU0 : ∀ h, VH (bt (c.1 2)) (vE c) (vB c) (vn c) h → U h ini = ρ (val h)) (hU : ∀ h v, VH (bt (c.1 2)) (vE c) (vB c) (vn c) h → -10 ≤ v → v ≤ 10 → U h (ρ v) = if val h ≤ v then ρ v else ρ (val h)) :
    (hvV c at_).1 = nI (cC c (c.1 7) (c.1 8)) ∧ ((cC c (c.1 7) (c.1 8) = 0 ∧ dV (tmG (gS c (c.1 7) (c.1 8)) w) (bt (c.1 2)) (vE c) (vB c) (vn c) (vn c) 0 ≤ -500000) ∨ (0 < cC c (c.1 7) (c.1 8) ∧ -10 ≤ dV (tmG (gS c (c.1 7) (c.1 8)) w) (bt (c.1 2)) (vE c) (vB c) (vn c) (vn c) 0 ∧ dV (tmG (gS c (c.1 7) (c.1 8)) w) (bt (c.1 2)) (vE c) (vB c) (vn c) (vn c) 0 ≤ 10 ∧ π (hvV c at_) = ρ (dV (tmG (gS c (c.1 7) (c.1 8)) w) (bt (c.1 2)) (vE c) (vB c) (vn c) (vn c) 0) ∧ val (pl (tmG (gS c (c.1 7) (c.1 8)) w) (bt (c.1 2)) (vE c) (vB c) (vn c) (vn c) (fun _ => 0)) = dV (tmG (gS c (c.1 7) (c.1 8)) w) (bt (c.1 2)) (vE c) (vB c) (vn c) (vn c) 0)) := by
  have hR := vis_rel0 (F := FH c at_) (F2 := fun h (q : Nat × (Int × (Nat → Nat))) => (FC c (c.1 7) (c.1 8) h q.1, FI (tmG (gS c (c.1 7) (c.1 8)) w) (vn c) h q.2)) (cl := bt (c.1 2)) (E := vE c) (B := vB c) (n := vn c) (R := fun a e => a.1 = nI e.1 ∧ ((e.1 = 0 ∧ e.2.1 = -500000 ∧ π a = ini) ∨ (0 < e.1 ∧ -10 ≤ e.2.1 ∧ e.2.1 ≤ 10 ∧ π a = ρ e.2.1 ∧ val e.2.2 = e.2.1))) (fun h a ⟨k, g, y⟩ hv hr => ?_) (a := (0, 1000000, 1000000, -6)) (b := (0, (-500000, fun _ => 0))) ⟨rfl, Or.inl ⟨rfl, rfl, hini⟩⟩
  · rw [vis_pair, (cnt_eq hW hs).1, vis_best (vn c) (Nat.le_refl _), Nat.sub_self, show sc (tmG (gS c (c.1 7) (c.1 8)) w) (fun _ => 0) 0 = 0 from rfl, Int.zero_add, show psm (fun _ => 0) 0 = 0 from rfl] at hR
    refine ⟨hR.1, ?_⟩
    by_cases hd : dV (tmG (gS c (c.1 7) (c.1 8)) w) (bt (c.1 2)) (vE c) (vB c) (vn c) (vn c) 0 ≤ -500000
    · rw [if_pos hd] at hR
      rcases hR.2 with q | q
      · exact Or.inl ⟨q.1, hd⟩
      · have q2 : (-10 : Int) ≤ -500000 := q.2.1
        omega
    · rw [if_neg hd] at hR
      rcases hR.2 with q | q
      · exact absurd (Int.le_of_eq q.2.1) hd
      · exact Or.inr q
  · have hr1 : a.1 = nI k := hr.1
    have hr2 : (k = 0 ∧ g = -500000 ∧ π a = ini) ∨ (0 < k ∧ -10 ≤ g ∧ g ≤ 10 ∧ π a = ρ g ∧ val y = g) := hr.2
    obtain ⟨v1, v2, v3⟩ := hval h hv
    obtain ⟨s1, s2⟩ := sc_set hW hs (wa := c.1 8) hv.2.1 w
    rw [v1] at s1 s2
    show (FH c at_ h a).1 = nI (FC c (c.1 7) (c.1 8) h k) ∧ ((FC c (c.1 7) (c.1 8) h k = 0 ∧ (FI (tmG (gS c (c.1 7) (c.1 8)) w) (vn c) h (g, y)).1 = -500000 ∧ π (FH c at_ h a) = ini) ∨ (0 < FC c (c.1 7) (c.1 8) h k ∧ -10 ≤ (FI (tmG (gS c (c.1 7) (c.1 8)) w) (vn c) h (g, y)).1 ∧ (FI (tmG (gS c (c.1 7) (c.1 8)) w) (vn c) h (g, y)).1 ≤ 10 ∧ π (FH c at_ h a) = ρ (FI (tmG (gS c (c.1 7) (c.1 8)) w) (vn c) h (g, y)).1 ∧ val (FI (tmG (gS c (c.1 7) (c.1 8)) w) (vn c) h (g, y)).2 = (FI (tmG (gS c (c.1 7) (c.1 8)) w) (vn c) h (g, y)).1))
    cases hso : soH c (c.1 7) (c.1 8) h with
    | true =>
      have e1 : FC c (c.1 7) (c.1 8) h k = k + 1 := by unfold FC; rw [if_pos hso]
      have e2 : (FH c at_ h a).1 = nI (k + 1) := by
        unfold FH
        rw [if_pos hso]
        show a.1 + 1 = _
        rw [hr1, inc_n]
      rw [hπ h a hso, e1, e2]
      refine ⟨rfl, Or.inr ⟨by omega, ?_⟩⟩
      unfold FI
      rw [s1 hso]
      rcases hr2 with ⟨r1, r2, r3⟩ | ⟨r1, r2, r3, r4, r5⟩
      · rw [r3, hU0 h hv, if_neg (show ¬ val h ≤ (g, y).1 by show ¬ val h ≤ g; omega)]
        exact ⟨v2, v3, rfl, rfl⟩
      · rw [r4, hU h g hv r2 r3]
        by_cases hc : val h ≤ g
        · rw [if_pos hc, if_pos (show val h ≤ (g, y).1 from hc)]
          exact ⟨r2, r3, rfl, r5⟩
        · rw [if_neg hc, if_neg (show ¬ val h ≤ (g, y).1 from hc)]
          exact ⟨v2, v3, rfl, rfl⟩
    | false =>
      have e1 : FC c (c.1 7) (c.1 8) h k = k := by unfold FC; rw [hso, if_neg (by decide)]
      have e2 : FH c at_ h a = a := by unfold FH; rw [hso, if_neg (by decide)]
      have e3 : FI (tmG (gS c (c.1 7) (c.1 8)) w) (vn c) h (g, y) = (g, y) := by
        unfold FI
        have := s2 hso
        rw [if_pos (show _ ≤ (g, y).1 by
          show _ ≤ g
          rcases hr2 with ⟨-, r2, -⟩ | ⟨-, r2, -⟩ <;> omega)]
      rw [e1, e2, e3]
      exact hr
