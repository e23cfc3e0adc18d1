/-! best and worth -/
theorem bp_ub (f : Nat → Int) : ∀ M x, x ≤ M → f x ≤ (bp f M).1 := by
  intro M
  induction M with
  | zero =>
    intro x hx
    rw [show x = 0 by omega]
    exact Int.le_refl _
  | succ M ih =>
    intro x hx
    rw [bp]
    by_cases h : f (M + 1) ≤ (bp f M).1
    · rw [if_pos h]
      by_cases e : x = M + 1
      · rw [e]; exact h
      · exact ih x (by omega)
    · rw [if_neg h]
      show f x ≤ f (M + 1)
      by_cases e : x = M + 1
      · rw [e]; exact Int.le_refl _
      · have := ih x (by omega); omega
theorem bp_att (f : Nat → Int) : ∀ M, (bp f M).1 = f (bp f M).2 := by
  intro M
  induction M with
  | zero => rfl
  | succ M ih =>
    rw [bp]
    by_cases h : f (M + 1) ≤ (bp f M).1
    · rw [if_pos h]; exact ih
    · rw [if_neg h]
theorem dV_b2 {tm : Nat → Nat → Nat → Int} {b : Int} {cl : Nat → Bool} {E B n : Nat} (hb : ∀ s u x, x ≤ E → -b ≤ tm s u x ∧ tm s u x ≤ b) : ∀ k u : Nat, -(b * (k : Int)) ≤ dV tm cl E B n k u ∧ dV tm cl E B n k u ≤ b * (k : Int) := by
  intro k
  induction k with
  | zero => intro u; show -(b * ((0 : Nat) : Int)) ≤ 0 ∧ 0 ≤ b * ((0 : Nat) : Int); simp
  | succ k ih =>
    intro u
    rw [dV]
    refine bp_bd _ (fun x hx => ?_)
    have h1 := mr_le cl E B u (n - (k + 1))
    have h2 := hb (n - (k + 1)) u x (by omega)
    have h3 := ih (u + x)
    rw [show ((k + 1 : Nat) : Int) = (k : Int) + 1 from rfl, Int.mul_add, Int.mul_one]
    omega
/-- who counts -/
def cw (c : SS) (cnt : Int32) (p : Nat) : Bool := bt (c.1 5) p && bt cnt p
def tb (c : SS) (q : Nat → Bool) : Nat → Nat → Nat → Int := tmG (gG c q) (fun _ => 0)
theorem tb_bd {c : SS} (hW : WOK c) (q : Nat → Bool) (s u x : Nat) : -72 ≤ tb c q s u x ∧ tb c q s u x ≤ 72 := by
  have := gG_bd hW q s (u + x)
  show -72 ≤ gG c q s (u + x) + 0 * (x : Int) ∧ gG c q s (u + x) + 0 * (x : Int) ≤ 72
  omega
theorem dVt_bd {c : SS} (hW : WOK c) (q : Nat → Bool) (cl : Nat → Bool) (E B n k u : Nat) (hk : k ≤ 6) : -432 ≤ dV (tb c q) cl E B n k u ∧ dV (tb c q) cl E B n k u ≤ 432 := by
  have := dV_b2 (cl := cl) (E := E) (B := B) (n := n) (fun s u x _ => tb_bd hW q s u x) k u
  omega
theorem bb_eq {c : SS} (hW : WOK c) (cnt : Int32) (B : Nat) (b : Nat → Int32) : (bbV c cnt B b).1 = iI (dV (tb c (cw c cnt)) (bt (c.1 2)) (vE c) B (vn c) (vn c) 0) ∧ ∀ j, (bbV c cnt B b).2 j = nI (pl (tb c (cw c cnt)) (bt (c.1 2)) (vE c) B (vn c) (vn c) (fun _ => 0) j) := by
  obtain ⟨⟨n1, n2, n3⟩, -⟩ := id hW
  have hR := vis_rel0 (F := FB c cnt) (F2 := FI (tb c (cw c cnt)) (vn c)) (cl := bt (c.1 2)) (E := vE c) (B := B) (n := vn c) (R := fun a e => a.1 = iI e.1 ∧ (-1000000 ≤ e.1 ∧ e.1 ≤ 1000) ∧ (e.1 = -1000000 ∨ ∀ j, a.2 j = nI (e.2 j))) (fun h ⟨g, x⟩ ⟨g2, y⟩ hv ⟨r1, r2, r3⟩ => ?_) (a := (-1000000, b)) (b := (-1000000, fun _ => 0)) ⟨rfl, by omega, Or.inl rfl⟩
  · rw [vis_best (vn c) (Nat.le_refl _), Nat.sub_self] at hR
    have hb := dVt_bd hW (cw c cnt) (bt (c.1 2)) (vE c) B (vn c) (vn c) (psm (fun _ => 0) 0) n3
    rw [show sc (tb c (cw c cnt)) (fun _ => 0) 0 = 0 from rfl, if_neg (by omega), Int.zero_add] at hR
    refine ⟨hR.1, ?_⟩
    rcases hR.2.2 with q | q
    · exact absurd q (by show ¬ dV _ _ _ _ _ _ _ = -1000000; omega)
    · exact q
  · have r1' : g = iI g2 := r1
    have r2' : -1000000 ≤ g2 ∧ g2 ≤ 1000 := r2
    have hs : ghH c cnt h = iI (sc (tb c (cw c cnt)) h (vn c)) := by
      unfold ghH tb
      rw [gdS_sm, sc_good hv.2.1 (fun p hp hq => by
        obtain ⟨⟨g1, g2, g3⟩, -⟩ := hW.2.2.2.2.2.2.2.2 p hp
        unfold cw at hq
        cases e : bt (c.1 5) p with
        | true => exact g3 e
        | false => rw [e] at hq; cases hq)]
      rfl
    have hsb : -432 ≤ sc (tb c (cw c cnt)) h (vn c) ∧ sc (tb c (cw c cnt)) h (vn c) ≤ 432 := by
      rw [sc_sm]
      have := sm_bd (b := 72) (vn c) (fun s _ => tb_bd hW (cw c cnt) s (psm h s) (h s))
      omega
    show (FB c cnt h (g, x)).1 = iI (FI (tb c (cw c cnt)) (vn c) h (g2, y)).1 ∧ (-1000000 ≤ (FI (tb c (cw c cnt)) (vn c) h (g2, y)).1 ∧ (FI (tb c (cw c cnt)) (vn c) h (g2, y)).1 ≤ 1000) ∧ ((FI (tb c (cw c cnt)) (vn c) h (g2, y)).1 = -1000000 ∨ ∀ j, (FB c cnt h (g, x)).2 j = nI ((FI (tb c (cw c cnt)) (vn c) h (g2, y)).2 j))
    unfold FB FI
    rw [hs, r1']
    by_cases hc : sc (tb c (cw c cnt)) h (vn c) ≤ g2
    · rw [if_pos ((iI_le (by omega) (by omega) (by omega) (by omega)).mpr hc), if_pos hc]
      exact ⟨rfl, r2', r3⟩
    · rw [if_neg (fun z => hc ((iI_le (by omega) (by omega) (by omega) (by omega)).mp z)), if_neg hc]
      exact ⟨rfl, by omega, Or.inr (fun j => rfl)⟩
theorem tb_all {c : SS} : tb c (cw c 255) = tmG (gG c (bt (c.1 5))) (fun _ => 0) := by
  unfold tb
  rw [gG_cg (q := cw c 255) (q2 := bt (c.1 5)) (fun p hp => by unfold cw; rw [b_255]; simp [hp])]
theorem FM_ms {m z : SS} (h : FM m z) : MS m z := MS_mk (fun k _ => by rw [h.1]) (fun k hk => h.2 k (by omega) (by omega) (by omega))
theorem FM.rf (m : SS) : FM m m := ⟨rfl, fun _ _ _ _ => rfl⟩
theorem stopAll_c {c : SS} (hW : WOK c) (p : Int32) : fX6_isStopOrAll c p = 0 ↔ ¬ (p = -1 ∨ (0 ≤ p.toInt ∧ p.toInt < vn c)) := by
  unfold fX6_isStopOrAll
  rw [stop_c hW]
  by_cases h1 : p = -1
  · rw [if_pos h1]
    constructor
    · intro q; exact absurd q (by decide)
    · intro q; exact absurd (Or.inl h1) q
  · rw [if_neg h1]
    by_cases h2 : 0 ≤ p.toInt ∧ p.toInt < vn c
    · rw [if_pos h2, if_neg (by decide)]
      constructor
      · intro q; exact absurd q (by decide)
      · intro q; exact absurd (Or.inr h2) q
    · rw [if_neg h2, if_pos rfl]
      constructor
      · rintro _ (q | q)
        · exact h1 q
        · exact h2 q
      · intro _; rfl
theorem ok_best : OK_best Inv := by
  intro c m i0 i1 p h
  obtain ⟨hW, hR, hP, hi0, hi1, hX⟩ := id h
  obtain ⟨⟨n1, n2, n3⟩, -, ⟨b1, b2⟩, -⟩ := id hW
  unfold fX6_best fX7_best
  simp only [jn_e]
  rw [stop_m hW hR, hR.2.2.2.1, b1]
  obtain ⟨y, y1, y2, y3⟩ := mostGood_c hW (PC.rf c) (B := vB c) (by omega)
  obtain ⟨z, z1, z2, z3⟩ := bestBy_m hW hR (FM.rf m) (B := vB c) (by omega) 255
  obtain ⟨e1, e2⟩ := bb_eq hW 255 (vB c) (m.2 21)
  rw [tb_all] at e1 e2
  have hI2 := Inv_of h y2.cm (FM_ms z2)
  by_cases h1 : p = -1
  · rw [if_neg (fun q => (stopAll_c hW p).mp q (Or.inl h1)), if_pos h1, y1, z1, Option.bind_some, Option.bind_some, if_pos h1, if_pos h1, e1]
    exact ⟨_, _, _, rfl, rfl, hI2⟩
  · by_cases h2 : 0 ≤ p.toInt ∧ p.toInt < vn c
    · obtain ⟨k, k1, rfl, k3⟩ := nI_back h2.1
      have hk : k < vn c := by omega
      rw [if_neg (fun q => (stopAll_c hW _).mp q (Or.inr h2)), if_neg h1, if_pos h2, if_neg (by decide), y1, z1, Option.bind_some, Option.bind_some, if_neg h1, if_neg h1, breaths_c n3 (by omega) hk y3, Option.bind_some, ald_n (by omega) (by decide), z3 k (by omega), e2]
      exact ⟨_, _, _, rfl, rfl, hI2⟩
    · rw [if_pos ((stopAll_c hW p).mpr (fun q => q.elim h1 h2)), if_neg h1, if_neg h2, if_pos rfl]
      exact ⟨_, _, _, rfl, rfl, h⟩
theorem ok_worth : OK_worth Inv := by
  intro c m i0 i1 h
  obtain ⟨hW, hR, hP, hi0, hi1, hX⟩ := id h
  obtain ⟨⟨n1, n2, n3⟩, -, ⟨b1, b2⟩, -⟩ := id hW
  unfold fX6_worth fX7_worth
  rw [hR.2.2.2.1, b1, inc_n]
  obtain ⟨y, y1, y2, y3⟩ := mostGood_c hW (PC.rf c) (B := vB c) (by omega)
  obtain ⟨x, x1, x2, x3⟩ := mostGood_c hW y2 (B := vB c + 1) (by omega)
  obtain ⟨z, z1, z2, z3⟩ := bestBy_m hW hR (FM.rf m) (B := vB c + 1) (by omega) 255
  obtain ⟨e1, e2⟩ := bb_eq hW 255 (vB c + 1) (m.2 21)
  obtain ⟨t, t1, t2, t3⟩ := bestBy_m hW hR z2 (B := vB c) (by omega) 255
  obtain ⟨f1, f2⟩ := bb_eq hW 255 (vB c) (z.2 21)
  rw [tb_all] at e1 f1
  rw [y1, Option.bind_some, z1, Option.bind_some, y2.1, b1, inc_n, x1, z2.1, hR.2.2.2.1, b1, t1, Option.bind_some, Option.bind_some, e1, f1]
  exact ⟨_, _, _, rfl, rfl, Inv_of h x2.cm (FM_ms t2)⟩
