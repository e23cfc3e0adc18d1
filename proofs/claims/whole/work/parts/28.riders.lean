/-! when the tram leaves, who rides -/
theorem n4 {i : Nat} (h : i < 4) : ¬ (4 : Int32) ≤ nI i := nI_ge (b := 4) h (by decide)
theorem n6 {i : Nat} (h : i < 6) : ¬ (6 : Int32) ≤ nI i := nI_ge (b := 6) h (by decide)
theorem n7 {i : Nat} (h : i < 7) : ¬ (7 : Int32) ≤ nI i := nI_ge (b := 7) h (by decide)
theorem n8 {i : Nat} (h : i < 8) : ¬ (8 : Int32) ≤ nI i := nI_ge (b := 8) h (by decide)
theorem n11 {i : Nat} (h : i < 11) : ¬ (11 : Int32) ≤ nI i := nI_ge (b := 11) h (by decide)
theorem n66 {i : Nat} (h : i < 66) : ¬ (66 : Int32) ≤ nI i := nI_ge (b := 66) h (by decide)
theorem n100 {i : Nat} (h : i < 100) : ¬ (100 : Int32) ≤ nI i := nI_ge (b := 100) h (by decide)
theorem n462 {i : Nat} (h : i < 462) : ¬ (462 : Int32) ≤ nI i := nI_ge (b := 462) h (by decide)
def dpS (se : Nat → Int32) (cl : Nat → Bool) : Nat → Nat
  | 0 => 0
  | s + 1 => dpS se cl s + (if cl s then (se s).toNatClampNeg - 1 else (se s).toNatClampNeg)
def dN (se : Nat → Int32) (cl : Nat → Bool) (s : Nat) : Nat := dpS se cl s + (se s).toNatClampNeg
def seOK (se : Nat → Int32) : Prop := ∀ s, s < 6 → se s = nI (se s).toNatClampNeg ∧ (se s).toNatClampNeg ≤ 9
theorem dpS_le {se : Nat → Int32} (h : seOK se) (cl : Nat → Bool) : ∀ s, s ≤ 6 → dpS se cl s ≤ 9 * s := by
  intro s
  induction s with
  | zero => intro _; exact Nat.le_refl _
  | succ s ih =>
    intro hs
    have h1 := ih (by omega)
    have h2 := (h s (by omega)).2
    unfold dpS
    split <;> omega
theorem dN_le {se : Nat → Int32} (h : seOK se) (cl : Nat → Bool) {s : Nat} (hs : s < 6) : dN se cl s ≤ 54 := by
  have h1 := dpS_le h cl s (by omega)
  have h2 := (h s hs).2
  unfold dN
  omega
theorem WOK.se {c : SS} (h : WOK c) : seOK (c.2 1) := fun s hs => h.2.2.2.2.2.2.2.1 s hs
theorem nI_m1 {k : Nat} (h : 1 ≤ k) : nI k + (-1 : Int32) = nI (k - 1) := by
  obtain ⟨j, rfl⟩ : ∃ j, k = j + 1 := ⟨k - 1, by omega⟩
  have := nI_pred j
  rw [show j + 1 - 1 = j by omega, ← this, Int32.sub_eq_add_neg]
theorem nI_nle0 {k : Nat} (h : k < 2 ^ 31) : nI k ≤ 0 ↔ k = 0 := by
  have := nI_leI (a := k) (b := 0) h (by decide)
  constructor
  · intro q; have := this.mp q; omega
  · intro q; exact this.mpr (by omega)
/-- departs -/
theorem departs_s {c : SS} (h : seOK (c.2 1)) (sh : Int32) {st : Nat} (hst : st < 6) : fX5_departs c (nI st) sh = some (nI (dN (c.2 1) (bt sh) st)) := by
  have key : ∀ (j i n : Nat), i + j = st → j + 1 < n → fX5_departs_L5 c (nI st) sh n (nI (dpS (c.2 1) (bt sh) i)) (nI i) = some (nI (dN (c.2 1) (bt sh) st)) := by
    intro j
    induction j with
    | zero =>
      intro i n h1 h2
      obtain rfl : i = st := by omega
      obtain ⟨n, rfl⟩ : ∃ k, n = k + 2 := ⟨n - 2, by omega⟩
      have hd := dpS_le h (bt sh) i (by omega)
      have hs := h i (by omega)
      rw [fX5_departs_L5, if_neg (nI_nlt (Nat.le_refl _) (by omega)), if_neg (n6 hst), ald_n hst (by decide)]
      simp only [jn_e]
      rw [if_pos (Int32.le_refl _), inc_n, fX5_departs_L5, if_pos (nI_lt (by omega) (by omega)), hs.1, nI_add]
      rfl
    | succ j ih =>
      intro i n h1 h2
      obtain ⟨n, rfl⟩ : ∃ k, n = k + 1 := ⟨n - 1, by omega⟩
      have hd := dpS_le h (bt sh) i (by omega)
      have hs := h i (by omega)
      rw [fX5_departs_L5, if_neg (nI_nlt (by omega) (by omega)), if_neg (n6 (by omega)), ald_n (by omega) (by decide)]
      simp only [jn_e]
      rw [if_neg (nI_ge (by omega) (by omega)), inc_n]
      have goal := ih (i + 1) n (by omega) (by omega)
      have e : dpS (c.2 1) (bt sh) (i + 1) = dpS (c.2 1) (bt sh) i + (if bt sh i then (c.2 1 i).toNatClampNeg - 1 else (c.2 1 i).toNatClampNeg) := rfl
      generalize hv : (c.2 1 i).toNatClampNeg = v at hs e
      rw [hs.1]
      cases hb : bt sh i with
      | true =>
        rw [hb] at e
        rw [if_pos ((tb1 sh (by omega)).mpr hb), ald_n (by omega) (by decide), hs.1]
        by_cases hv0 : v = 0
        · rw [if_pos ((nI_nle0 (by omega)).mpr hv0), nI_add, hv0]
          rw [hv0] at e
          simp at e
          rw [← e]
          exact goal
        · rw [if_neg (fun q => hv0 ((nI_nle0 (by omega)).mp q)), nI_add, nI_m1 (by omega)]
          simp at e
          rw [show dpS (c.2 1) (bt sh) i + v - 1 = dpS (c.2 1) (bt sh) (i + 1) by omega]
          exact goal
      | false =>
        rw [hb] at e
        rw [if_neg (fun q => by have := (tb1 sh (by omega)).mp q; rw [hb] at this; cases this), nI_add]
        simp at e
        rw [← e]
        exact goal
  unfold fX5_departs
  exact key st 0 fu (by omega) (Nat.lt_trans (show st + 1 < 8 by omega) (fu_big (by omega)))
/-- what a person needs -/
def ndv (c : SS) (cl : Nat → Bool) (p : Nat) : Int32 := if bt (c.1 5) p = true ∧ cl (va c p) = false then c.2 3 p - nI (dN (c.2 1) cl (va c p)) else 1000
def msr (c : SS) (sh : Int32) : SS := lp 8 (fun i s => sA s 8 (0 + i) (ndv c (bt sh) i)) c
theorem measure_s {c : SS} (hW : WOK c) (sh : Int32) : fX4_measure c sh = some (msr c sh) := by
  have w9 := hW.2.2.2.2.2.2.2.2
  unfold fX4_measure msr
  refine (for_up (fun n i s => fX4_measure_L2 sh n (nI i) s) 8 (fun i s => sA s 8 (0 + i) (ndv c (bt sh) i)) some (fun _ s => s.1 = c.1 ∧ ∀ j, j ≠ 8 → s.2 j = c.2 j) ?_ ?_ ?_ fu c (fu_big (by omega)) ⟨rfl, fun _ _ => rfl⟩).1
  · intro n i s hi ⟨h1, h2⟩
    show fX4_measure_L2 sh (n + 1) (nI i) s = fX4_measure_L2 sh n (nI (i + 1)) _
    obtain ⟨⟨g1, g2, g3⟩, ⟨g4, g5⟩, -⟩ := w9 i hi
    rw [fX4_measure_L2, if_neg (n8 hi), ald_n hi (by decide), h2 2 (by omega), g1]
    simp only [jn_e]
    rw [person_c, h1, nI_ti (by omega)]
    simp only [ite0, ald_n hi (show 8 < 2 ^ 31 by decide), ckb_n hi (show 8 < 2 ^ 31 by decide), inc_n, nI_clamp (show i < 2 ^ 31 by omega), Nat.zero_add]
    have ei : ((i : Int)).toNat = i := by omega
    rw [ei]
    have hd := departs_s (c := s) (by rw [h2 1 (by omega)]; exact hW.se) sh (st := va c i) g2
    rw [h2 1 (by omega)] at hd
    unfold ndv
    by_cases hp : bt (c.1 5) i = true
    · have hh : 0 ≤ (i : Int) ∧ (i : Int) ≤ 7 ∧ bt (c.1 5) i = true := ⟨by omega, by omega, hp⟩
      simp only [hh, and_self, not_true_eq_false, if_false, tb1 sh (show va c i < 32 by omega)]
      cases hc : bt sh (va c i) with
      | true => simp
      | false =>
        simp only [hd, hp, h2 3 (show 3 ≠ 8 by omega), if_true, if_false, and_self, Bool.false_eq_true, Option.bind_some]
    · have hh : ¬ (0 ≤ (i : Int) ∧ (i : Int) ≤ 7 ∧ bt (c.1 5) i = true) := fun q => hp q.2.2
      simp [hh, hp]
  · intro n s ⟨h1, h2⟩
    show fX4_measure_L2 sh (n + 1) (nI 8) s = some s
    rw [fX4_measure_L2, if_pos (show (8 : Int32) ≤ nI 8 by decide)]
  · intro i s hi ⟨h1, h2⟩
    exact ⟨by rw [sA_1]; exact h1, fun j hj => by rw [sA_2, if_neg hj]; exact h2 j hj⟩
theorem msr_f (c : SS) (sh : Int32) : (msr c sh).1 = c.1 ∧ (∀ j, j ≠ 8 → (msr c sh).2 j = c.2 j) ∧ ∀ p, p < 8 → (msr c sh).2 8 p = ndv c (bt sh) p := by
  obtain ⟨h1, h2, h3⟩ := lpA 8 0 8 (ndv c (bt sh)) c
  refine ⟨h1, h2, fun p hp => ?_⟩
  have := h3 p
  rw [if_pos (by omega)] at this
  exact this
