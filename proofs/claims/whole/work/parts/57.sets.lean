/-! sets of those who must ride and of those who must walk -/
theorem lp_or {f : Nat → Bool} : ∀ n, (lp n (fun p a => a || f p) false = true) ↔ ∃ p, p < n ∧ f p = true := by
  intro n
  induction n with
  | zero => exact ⟨fun q => absurd (show false = true from q) (by decide), fun ⟨p, hp, _⟩ => absurd hp (by omega)⟩
  | succ n ih =>
    rw [lp_s, Bool.or_eq_true, ih]
    constructor
    · rintro (⟨p, h1, h2⟩ | h)
      · exact ⟨p, by omega, h2⟩
      · exact ⟨n, by omega, h⟩
    · rintro ⟨p, h1, h2⟩
      by_cases e : p = n
      · right; rw [← e]; exact h2
      · left; exact ⟨p, by omega, h2⟩
theorem lp_and {f : Nat → Bool} : ∀ n, (lp n (fun p a => a && f p) true = true) ↔ ∀ p, p < n → f p = true := by
  intro n
  induction n with
  | zero => exact ⟨fun _ p hp => absurd hp (by omega), fun _ => rfl⟩
  | succ n ih =>
    rw [lp_s, Bool.and_eq_true, ih]
    constructor
    · rintro ⟨h1, h2⟩ p hp
      by_cases e : p = n
      · rw [e]; exact h2
      · exact h1 p (by omega)
    · intro h
      exact ⟨fun p hp => h p (by omega), h n (by omega)⟩
/-- a person who rides and must walk, or walks and must ride -/
def bad1 (ri wa : Int32) (p : Nat) (r : Bool) : Bool := if r then bt wa p else bt ri p
def soH (c : SS) (ri wa : Int32) (h : Nat → Nat) : Bool := lp 8 (fun p a => a && !(bad1 ri wa p (rdH c h p))) true
def badN (c : SS) (ri wa : Int32) (i s d : Nat) : Bool := lp i (fun p a => a || (decide (va c p = s) && bad1 ri wa p (rq c p d))) false
def gS (c : SS) (ri wa : Int32) (s d : Nat) : Int := if badN c ri wa 8 s d then -1000000 else 0
theorem soH_i {c : SS} {ri wa : Int32} {h : Nat → Nat} : soH c ri wa h = true ↔ ∀ p, p < 8 → bad1 ri wa p (rdH c h p) = false := by
  unfold soH
  rw [lp_and]
  constructor
  · intro q p hp; have := q p hp; rw [Bool.not_eq_true'] at this; exact this
  · intro q p hp; rw [q p hp]; rfl
theorem sm_le1 {f : Nat → Int} {n i : Nat} (h : ∀ j, j < n → f j ≤ 0) (hi : i < n) : sm n f ≤ f i := by
  induction n with
  | zero => omega
  | succ n ih =>
    have h0 : ∀ m, m ≤ n + 1 → sm m f ≤ 0 := by
      intro m
      induction m with
      | zero => intro _; exact Int.le_refl _
      | succ m ihm => intro hm; rw [sm_s]; have := ihm (by omega); have := h m (by omega); omega
    rw [sm_s]
    by_cases e : i = n
    · rw [e]; have := h0 n (by omega); omega
    · have := ih (fun j hj => h j (by omega)) (by omega)
      have := h n (by omega)
      omega
/-- the bits of the sets -/
def SB (c : SS) (ri : Int32) : Prop := ∀ p, p < 8 → bt ri p = true → va c p < vn c
theorem sc_set {c : SS} (hW : WOK c) {ri wa : Int32} (hs : SB c ri) {h : Nat → Nat} (hc : ∀ j, bt (c.1 2) j = true → h j = 0) (w : Nat → Int) : (soH c ri wa h = true → sc (tmG (gS c ri wa) w) h (vn c) = sm (vn c) (fun s => w s * (h s : Int))) ∧ (soH c ri wa h = false → sc (tmG (gS c ri wa) w) h (vn c) ≤ -1000000 + sm (vn c) (fun s => w s * (h s : Int))) := by
  have e : sc (tmG (gS c ri wa) w) h (vn c) = sm (vn c) (fun s => gS c ri wa s (psm h (s + 1))) + sm (vn c) (fun s => w s * (h s : Int)) := by
    rw [sc_sm, ← sm_add]
    rfl
  rw [e]
  constructor
  · intro hso
    have hz : sm (vn c) (fun s => gS c ri wa s (psm h (s + 1))) = 0 := by
      rw [← sm_0 (vn c)]
      refine sm_cg _ (fun s _ => ?_)
      unfold gS
      rw [if_neg]
      intro q
      obtain ⟨p, p1, p2⟩ := (lp_or 8).mp q
      rw [Bool.and_eq_true, decide_eq_true_eq] at p2
      have := soH_i.mp hso p p1
      rw [rdH_q hc, p2.1, p2.2] at this
      cases this
    rw [hz, Int.zero_add]
  · intro hso
    have : ∃ p, p < 8 ∧ bad1 ri wa p (rdH c h p) = true := by
      apply Classical.byContradiction
      intro q
      have : soH c ri wa h = true := soH_i.mpr (fun p hp => by
        cases e2 : bad1 ri wa p (rdH c h p) with
        | false => rfl
        | true => exact absurd ⟨p, hp, e2⟩ q)
      rw [hso] at this
      cases this
    obtain ⟨p, p1, p2⟩ := this
    rw [rdH_q hc] at p2
    have hv : va c p < vn c := by
      obtain ⟨⟨g1, g2, g3⟩, -⟩ := hW.2.2.2.2.2.2.2.2 p p1
      cases e2 : rq c p (psm h (va c p + 1)) with
      | true =>
        unfold rq rdB at e2
        rw [Bool.and_eq_true] at e2
        exact g3 e2.1
      | false =>
        rw [e2] at p2
        exact hs p p1 p2
    have hb : badN c ri wa 8 (va c p) (psm h (va c p + 1)) = true := (lp_or 8).mpr ⟨p, p1, by rw [p2, decide_eq_true rfl]; rfl⟩
    have hg : ∀ s d, gS c ri wa s d ≤ 0 := fun s d => by unfold gS; split <;> omega
    have := sm_le1 (f := fun s => gS c ri wa s (psm h (s + 1))) (fun j _ => hg _ _) hv
    have e3 : gS c ri wa (va c p) (psm h (va c p + 1)) = -1000000 := by unfold gS; rw [if_pos hb]
    have this' : sm (vn c) (fun s => gS c ri wa s (psm h (s + 1))) ≤ gS c ri wa (va c p) (psm h (va c p + 1)) := this
    omega
theorem gS_bd (c : SS) (ri wa : Int32) (s d : Nat) : -1000000 ≤ gS c ri wa s d ∧ gS c ri wa s d ≤ 1000000 := by
  unfold gS
  split <;> omega
theorem sm_neg (h : Nat → Nat) : ∀ n, sm n (fun s => (-1) * (h s : Int)) = -((psm h n : Nat) : Int) := by
  intro n
  induction n with
  | zero => rfl
  | succ n ih =>
    rw [sm_s, ih, show psm h (n + 1) = psm h n + h n from rfl]
    omega
/-- the reference's search for the fewest breaths -/
def FW (c : SS) (ri wa : Int32) (h : Nat → Nat) (a : Int32 × (Nat → Int32)) : Int32 × (Nat → Int32) := if soH c ri wa h = true then (if a.1 < 0 ∨ nI (psm h (vn c)) < a.1 then (nI (psm h (vn c)), fun j => nI (h j)) else a) else a
def fwV (c : SS) (ri wa : Int32) (b : Nat → Int32) : Int32 × (Nat → Int32) := vis (FW c ri wa) (bt (c.1 2)) (vE c) (vB c) (vn c) (vn c) (fun _ => 0) (-6, b)
def tS (c : SS) (ri wa : Int32) : Nat → Nat → Nat → Int := tmG (gS c ri wa) (fun _ => -1)
def dS (c : SS) (ri wa : Int32) : Int := dV (tS c ri wa) (bt (c.1 2)) (vE c) (vB c) (vn c) (vn c) 0
theorem fw_eq {c : SS} (hW : WOK c) {ri wa : Int32} (hs : SB c ri) (b : Nat → Int32) : (dS c ri wa ≤ -500000 ∧ (fwV c ri wa b).1 = -6) ∨ ∃ k : Nat, k ≤ 10 ∧ dS c ri wa = -(k : Int) ∧ (fwV c ri wa b).1 = nI k ∧ ∀ j, (fwV c ri wa b).2 j = nI (pl (tS c ri wa) (bt (c.1 2)) (vE c) (vB c) (vn c) (vn c) (fun _ => 0) j) := by
  obtain ⟨⟨n1, n2, n3⟩, -, ⟨b1, b2⟩, -⟩ := id hW
  have hR := vis_rel0 (F := FW c ri wa) (F2 := FI (tS c ri wa) (vn c)) (cl := bt (c.1 2)) (E := vE c) (B := vB c) (n := vn c) (R := fun a e => (e.1 = -500000 ∧ a.1 = -6) ∨ ∃ k : Nat, k ≤ 10 ∧ e.1 = -(k : Int) ∧ a.1 = nI k ∧ ∀ j, a.2 j = nI (e.2 j)) (fun h ⟨g, x⟩ ⟨g2, y⟩ hv hr => ?_) (a := (-6, b)) (b := (-500000, fun _ => 0)) (Or.inl ⟨rfl, rfl⟩)
  · rw [vis_best (vn c) (Nat.le_refl _), Nat.sub_self, show sc (tS c ri wa) (fun _ => 0) 0 = 0 from rfl, Int.zero_add] at hR
    by_cases hd : dS c ri wa ≤ -500000
    · rw [if_pos (show dV (tS c ri wa) (bt (c.1 2)) (vE c) (vB c) (vn c) (vn c) (psm (fun _ => 0) 0) ≤ -500000 from hd)] at hR
      left
      refine ⟨hd, ?_⟩
      rcases hR with q | ⟨k, k1, k2, -⟩
      · exact q.2
      · have k2' : (-500000 : Int) = -(k : Int) := k2
        omega
    · rw [if_neg (show ¬ dV (tS c ri wa) (bt (c.1 2)) (vE c) (vB c) (vn c) (vn c) (psm (fun _ => 0) 0) ≤ -500000 from hd)] at hR
      right
      rcases hR with q | ⟨k, k1, k2, k3, k4⟩
      · exact absurd (show dS c ri wa ≤ -500000 from Int.le_of_eq q.1) hd
      · exact ⟨k, k1, k2, k3, k4⟩
  · have hps : psm h (vn c) ≤ 9 := by have := hv.2.2.2; omega
    obtain ⟨s1, s2⟩ := sc_set hW hs (wa := wa) hv.2.1 (fun _ => -1)
    rw [sm_neg] at s1 s2
    show ((FI (tS c ri wa) (vn c) h (g2, y)).1 = -500000 ∧ (FW c ri wa h (g, x)).1 = -6) ∨ ∃ k : Nat, k ≤ 10 ∧ (FI (tS c ri wa) (vn c) h (g2, y)).1 = -(k : Int) ∧ (FW c ri wa h (g, x)).1 = nI k ∧ ∀ j, (FW c ri wa h (g, x)).2 j = nI ((FI (tS c ri wa) (vn c) h (g2, y)).2 j)
    have hr' : (g2 = -500000 ∧ g = -6) ∨ ∃ k : Nat, k ≤ 10 ∧ g2 = -(k : Int) ∧ g = nI k ∧ ∀ j, x j = nI (y j) := hr
    unfold FW FI tS
    cases hso : soH c ri wa h with
    | true =>
      rw [if_pos rfl, s1 hso]
      rcases hr' with ⟨r1, r2⟩ | ⟨k, k1, k2, k3, k4⟩
      · rw [if_pos (Or.inl (by show g < 0; rw [r2]; decide)), if_neg (by show ¬ _ ≤ g2; rw [r1]; omega)]
        exact Or.inr ⟨psm h (vn c), by omega, rfl, rfl, fun _ => rfl⟩
      · by_cases hlt : psm h (vn c) < k
        · rw [if_pos (Or.inr (by show _ < g; rw [k3]; exact nI_lt hlt (by omega))), if_neg (by show ¬ _ ≤ g2; rw [k2]; omega)]
          exact Or.inr ⟨psm h (vn c), by omega, rfl, rfl, fun _ => rfl⟩
        · have a1 : ¬ ((g, x).1 < 0 ∨ nI (psm h (vn c)) < (g, x).1) := by
            show ¬ (g < 0 ∨ nI (psm h (vn c)) < g)
            rw [k3]
            rintro (q | q)
            · exact nI_pos (by omega) q
            · exact hlt ((nI_ltI (by omega) (by omega)).mp q)
          have a2 : -((psm h (vn c) : Nat) : Int) ≤ (g2, y).1 := by
            show _ ≤ g2
            rw [k2]; omega
          rw [if_neg a1, if_pos a2]
          exact Or.inr ⟨k, k1, k2, k3, k4⟩
    | false =>
      have := s2 hso
      have a2 : sc (tmG (gS c ri wa) fun _ => -1) h (vn c) ≤ (g2, y).1 := by
        show _ ≤ g2
        rcases hr' with ⟨r1, r2⟩ | ⟨k, k1, k2, k3, k4⟩
        · rw [r1]; omega
        · rw [k2]; omega
      rw [if_neg (show ¬ (false = true) by decide), if_pos a2]
      exact hr'
