def bs (f : Nat → Bool) : Int32 := lp 8 (fun p b => b ||| (if f p then (1 : Int32) <<< (nI p &&& 31) else 0)) 0
theorem or_0 (x : Int32) : x ||| 0 = x := by
  apply b_ext; intro i hi; rw [b_or, b_0]; simp
theorem bs_n (f : Nat → Bool) : ∀ n, n ≤ 8 → ∀ i, i < 32 → bt (lp n (fun p b => b ||| (if f p then (1 : Int32) <<< (nI p &&& 31) else 0)) 0) i = (decide (i < n) && f i) := by
  intro n
  induction n with
  | zero => intro _ i hi; show bt 0 i = _; rw [b_0]; simp
  | succ n ih =>
    intro hn i hi
    rw [lp_s, b_or, ih (by omega) i hi]
    cases hf : f n with
    | true =>
      simp only [if_true]
      rw [b_one (by omega) hi]
      by_cases h : i = n
      · subst h; simp [hf]
      · have : decide (i < n + 1) = decide (i < n) := by
          apply decide_eq_decide.mpr; omega
        rw [this]; simp [h]
    | false =>
      simp only [Bool.false_eq_true, if_false, b_0, Bool.or_false]
      by_cases h : i = n
      · subst h; simp [hf]
      · have : decide (i < n + 1) = decide (i < n) := by
          apply decide_eq_decide.mpr; omega
        rw [this]
theorem bs_bt (f : Nat → Bool) (i : Nat) : bt (bs f) i = (decide (i < 8) && f i) := by
  by_cases hi : i < 32
  · exact bs_n f 8 (by omega) i hi
  · rw [b_big (by omega)]
    have : ¬ i < 8 := by omega
    simp [this]
theorem bs_congr {f g : Nat → Bool} (h : ∀ p, p < 8 → f p = g p) : bs f = bs g := by
  unfold bs
  exact lp_congr (fun i x hi => by rw [h i hi])
theorem bs_inj {f g : Nat → Bool} : bs f = bs g ↔ ∀ p, p < 8 → f p = g p := by
  constructor
  · intro h p hp
    have := bs_bt f p
    rw [h, bs_bt g p] at this
    simp [hp] at this
    exact this.symm
  · exact bs_congr
/-- who rides: by delays d, coming so much later -/
def rdB (c : SS) (cl : Nat → Bool) (d : Nat → Nat) (late p : Nat) : Bool := bt (c.1 5) p && (!cl (va c p) && decide (vco c p + late ≤ dN (c.2 1) cl (va c p) + d (va c p)))
theorem nd_le {c : SS} (hW : WOK c) (cl : Nat → Bool) {p late x : Nat} (hp : p < 8) (hl : late ≤ 100) (hx : x ≤ 99) (hv : bt (c.1 5) p = true → cl (va c p) = false → True) : (nI x < ndv c cl p + nI late) ↔ ¬ (bt (c.1 5) p = true ∧ cl (va c p) = false ∧ vco c p + late ≤ dN (c.2 1) cl (va c p) + x) := by
  obtain ⟨⟨g1, g2, g3⟩, ⟨g4, g5⟩, -⟩ := hW.2.2.2.2.2.2.2.2 p hp
  have hd := dN_le hW.se cl g2
  have el : (nI late).toInt = (late : Int) := nI_ti (by omega)
  have ex : (nI x).toInt = (x : Int) := nI_ti (by omega)
  unfold ndv
  by_cases h : bt (c.1 5) p = true ∧ cl (va c p) = false
  · rw [if_pos h, i32_lt, g4]
    have e1 : (nI (vco c p)).toInt = (vco c p : Int) := nI_ti (by omega)
    have e2 : (nI (dN (c.2 1) cl (va c p))).toInt = (dN (c.2 1) cl (va c p) : Int) := nI_ti (by omega)
    have e3 : (nI (vco c p) - nI (dN (c.2 1) cl (va c p))).toInt = (vco c p : Int) - (dN (c.2 1) cl (va c p) : Int) := by
      rw [sub_ti (by rw [e1, e2]; omega) (by rw [e1, e2]; omega), e1, e2]
    rw [add_ti (by rw [e3, el]; omega) (by rw [e3, el]; omega), e3, el, ex]
    constructor
    · intro q z; omega
    · intro q
      have : ¬ (vco c p + late ≤ dN (c.2 1) cl (va c p) + x) := fun z => q ⟨h.1, h.2, z⟩
      omega
  · rw [if_neg h, i32_lt]
    have e0 : (1000 : Int32).toInt = 1000 := rfl
    rw [add_ti (by rw [e0, el]; omega) (by rw [e0, el]; omega), e0, el, ex]
    constructor
    · intro _ z; exact h ⟨z.1, z.2.1⟩
    · intro _; omega
/-- the delays that a row holds, where they aren't negative -/
def dlC (f : Nat → Int32) (a : Nat) : Nat := (f a).toNatClampNeg
theorem late27_s {c s : SS} (hW : WOK c) (cl : Nat → Bool) (h1 : s.1 = c.1) (h2 : s.2 2 = c.2 2) (h8 : ∀ p, p < 8 → s.2 8 p = ndv c cl p) (d : Nat → Nat) (hd : ∀ p, p < 8 → ∃ y : Int32, s.2 20 (va c p) = y ∧ y.toInt ≤ 99 ∧ (bt (c.1 5) p = true → y = nI (d (va c p)) ∧ d (va c p) ≤ 99)) (late : Nat) (hl : late ≤ 100) : fX4_ridersLate_27 s (nI late) = some (bs (rdB c cl d late)) := by
  have hstep : ∀ p, p < 8 → (s.2 20 (va c p) < ndv c cl p + nI late ↔ rdB c cl d late p = false) := by
    intro p hp
    obtain ⟨y, y1, y2, y3⟩ := hd p hp
    rw [y1]
    unfold rdB
    by_cases hb : bt (c.1 5) p = true
    · obtain ⟨z1, z2⟩ := y3 hb
      rw [z1, nd_le hW cl hp hl z2 (fun _ _ => trivial)]
      cases hc : cl (va c p) <;> simp [hb]
    · have hb2 : bt (c.1 5) p = false := by cases h : bt (c.1 5) p <;> simp_all
      rw [hb2]
      simp only [Bool.false_and, iff_true]
      have : ndv c cl p = 1000 := by unfold ndv; rw [if_neg (fun q => hb q.1)]
      rw [this, i32_lt]
      have el : (nI late).toInt = (late : Int) := nI_ti (by omega)
      have e0 : (1000 : Int32).toInt = 1000 := rfl
      rw [add_ti (by rw [e0, el]; omega) (by rw [e0, el]; omega), e0, el]
      omega
  unfold fX4_ridersLate_27 bs
  refine for_up0 (fun n i b => fX4_ridersLate_27_L5 s (nI late) n b (nI i)) 8 (fun p b => b ||| (if rdB c cl d late p then (1 : Int32) <<< (nI p &&& 31) else 0)) some ?_ ?_ fu 0 (fu_big (by omega))
  · intro n i b hi
    show fX4_ridersLate_27_L5 s (nI late) (n + 1) b (nI i) = fX4_ridersLate_27_L5 s (nI late) n _ (nI (i + 1))
    obtain ⟨⟨g1, g2, g3⟩, -⟩ := hW.2.2.2.2.2.2.2.2 i hi
    rw [fX4_ridersLate_27_L5, if_neg (n8 hi), ald_n hi (by decide), ald_n hi (by decide), h2, g1, ald_n g2 (by decide), h8 i hi, inc_n]
    simp only [jn_e]
    by_cases hc : s.2 20 (va c i) < ndv c cl i + nI late
    · rw [if_pos hc, (hstep i hi).mp hc]; simp only [Bool.false_eq_true, if_false, or_0]
    · rw [if_neg hc]
      have : rdB c cl d late i = true := by
        cases h : rdB c cl d late i with
        | true => rfl
        | false => exact absurd ((hstep i hi).mpr h) hc
      rw [this]; simp only [if_true]
  · intro n b
    show fX4_ridersLate_27_L5 s (nI late) (n + 1) b (nI 8) = some b
    rw [fX4_ridersLate_27_L5, if_pos (show (8 : Int32) ≤ nI 8 by decide)]
theorem late24_s {c s : SS} (hW : WOK c) (cl : Nat → Bool) (h1 : s.1 = c.1) (h2 : s.2 2 = c.2 2) (h8 : ∀ p, p < 8 → s.2 8 p = ndv c cl p) (d : Nat → Nat) (hd : ∀ p, p < 8 → ∃ y : Int32, s.2 17 (va c p) = y ∧ y.toInt ≤ 99 ∧ (bt (c.1 5) p = true → y = nI (d (va c p)) ∧ d (va c p) ≤ 99)) (late : Nat) (hl : late ≤ 100) : fX4_ridersLate_24 s (nI late) = some (bs (rdB c cl d late)) := by
  have hstep : ∀ p, p < 8 → (s.2 17 (va c p) < ndv c cl p + nI late ↔ rdB c cl d late p = false) := by
    intro p hp
    obtain ⟨y, y1, y2, y3⟩ := hd p hp
    rw [y1]
    unfold rdB
    by_cases hb : bt (c.1 5) p = true
    · obtain ⟨z1, z2⟩ := y3 hb
      rw [z1, nd_le hW cl hp hl z2 (fun _ _ => trivial)]
      cases hc : cl (va c p) <;> simp [hb]
    · have hb2 : bt (c.1 5) p = false := by cases h : bt (c.1 5) p <;> simp_all
      rw [hb2]
      simp only [Bool.false_and, iff_true]
      have : ndv c cl p = 1000 := by unfold ndv; rw [if_neg (fun q => hb q.1)]
      rw [this, i32_lt]
      have el : (nI late).toInt = (late : Int) := nI_ti (by omega)
      have e0 : (1000 : Int32).toInt = 1000 := rfl
      rw [add_ti (by rw [e0, el]; omega) (by rw [e0, el]; omega), e0, el]
      omega
  unfold fX4_ridersLate_24 bs
  refine for_up0 (fun n i b => fX4_ridersLate_24_L5 s (nI late) n b (nI i)) 8 (fun p b => b ||| (if rdB c cl d late p then (1 : Int32) <<< (nI p &&& 31) else 0)) some ?_ ?_ fu 0 (fu_big (by omega))
  · intro n i b hi
    show fX4_ridersLate_24_L5 s (nI late) (n + 1) b (nI i) = fX4_ridersLate_24_L5 s (nI late) n _ (nI (i + 1))
    obtain ⟨⟨g1, g2, g3⟩, -⟩ := hW.2.2.2.2.2.2.2.2 i hi
    rw [fX4_ridersLate_24_L5, if_neg (n8 hi), ald_n hi (by decide), ald_n hi (by decide), h2, g1, ald_n g2 (by decide), h8 i hi, inc_n]
    simp only [jn_e]
    by_cases hc : s.2 17 (va c i) < ndv c cl i + nI late
    · rw [if_pos hc, (hstep i hi).mp hc]; simp only [Bool.false_eq_true, if_false, or_0]
    · rw [if_neg hc]
      have : rdB c cl d late i = true := by
        cases h : rdB c cl d late i with
        | true => rfl
        | false => exact absurd ((hstep i hi).mpr h) hc
      rw [this]; simp only [if_true]
  · intro n b
    show fX4_ridersLate_24_L5 s (nI late) (n + 1) b (nI 8) = some b
    rw [fX4_ridersLate_24_L5, if_pos (show (8 : Int32) ≤ nI 8 by decide)]
