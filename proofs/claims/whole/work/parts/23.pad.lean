def dg (x : Int32) : Prop := 48 ≤ x.toInt ∧ x.toInt ≤ 57
theorem sub_ti {x y : Int32} (h1 : -2147483648 ≤ x.toInt - y.toInt) (h2 : x.toInt - y.toInt < 2147483648) : (x - y).toInt = x.toInt - y.toInt := by
  rw [Int32.toInt_sub]
  exact Int.bmod_eq_of_le (by omega) (by omega)
theorem add_ti {x y : Int32} (h1 : -2147483648 ≤ x.toInt + y.toInt) (h2 : x.toInt + y.toInt < 2147483648) : (x + y).toInt = x.toInt + y.toInt := by
  rw [Int32.toInt_add]
  exact Int.bmod_eq_of_le (by omega) (by omega)
theorem mul_ti {x y : Int32} (h1 : -2147483648 ≤ x.toInt * y.toInt) (h2 : x.toInt * y.toInt < 2147483648) : (x * y).toInt = x.toInt * y.toInt := by
  rw [Int32.toInt_mul]
  exact Int.bmod_eq_of_le (by omega) (by omega)
theorem sg_digit {c m : SS} (hP : PR c m) {i : Nat} (hi : i < 20) : fX6_within (c.2 0 i - 48) 0 9 = 0 ↔ ¬ dg (c.2 0 i) := by
  obtain ⟨-, -, p4⟩ := hP
  obtain ⟨-, g1, g2⟩ := p4 i hi
  have e : ((c.2 0 i) - 48).toInt = (c.2 0 i).toInt - 48 := sub_ti (by show _ ≤ _ - (48 : Int); omega) (by show _ - (48 : Int) < _; omega)
  rw [win, e, ite0]
  have e0 : (0 : Int32).toInt = 0 := rfl
  have e9 : (9 : Int32).toInt = 9 := rfl
  rw [e0, e9]
  unfold dg
  constructor <;> intro h q <;> exact h ⟨by omega, by omega⟩
theorem digit_c {c m : SS} (hP : PR c m) {i : Nat} (hi : i < vK c) : fX1_digit c (nI i) = some (c.2 0 i - 48) := by
  obtain ⟨-, ⟨p2, p3⟩, -⟩ := hP
  unfold fX1_digit
  rw [if_neg (nI_pos (by omega)), if_neg, ald_n (by omega) (by decide)]
  rw [p2]
  exact nI_ge hi (by omega)
theorem fault_c {c m : SS} (hP : PR c m) (k : Unit → Option Int32) (a1 : Int32) (most : Nat) (hm : most ≤ 20) : ∀ n, vK c < n → (∃ i, i < vK c ∧ (most ≤ i ∨ ¬ dg (c.2 0 i)) ∧ (∀ j, j < i → ¬ (most ≤ j ∨ ¬ dg (c.2 0 j))) ∧ fX1_faultOf_L2 k c a1 (nI most) n (nI 0) = some (nI i)) ∨ ((∀ j, j < vK c → ¬ (most ≤ j ∨ ¬ dg (c.2 0 j))) ∧ fX1_faultOf_L2 k c a1 (nI most) n (nI 0) = k ()) := by
  have p2 := hP.2.1.1
  have p3 := hP.2.1.2
  refine for_find (fun n i => fX1_faultOf_L2 k c a1 (nI most) n (nI i)) (vK c) (fun i => most ≤ i ∨ ¬ dg (c.2 0 i)) (k ()) (fun i => some (nI i)) ?_ ?_ ?_
  · intro n
    show fX1_faultOf_L2 k c a1 (nI most) (n + 1) (nI (vK c)) = _
    rw [fX1_faultOf_L2, if_pos (by rw [← p2]; exact Int32.le_refl _)]
  · intro n i hi hb
    show fX1_faultOf_L2 k c a1 (nI most) (n + 1) (nI i) = _
    rw [fX1_faultOf_L2, if_neg (by rw [p2]; exact nI_ge hi (by omega))]
    by_cases h2 : most ≤ i
    · rw [if_pos (nI_le h2 (by omega))]
    · rw [if_neg (nI_ge (by omega) (by omega)), digit_c hP hi]
      have hd : ¬ dg (c.2 0 i) := by
        rcases hb with hb | hb
        · exact absurd hb h2
        · exact hb
      simp only [Option.bind_some]
      rw [if_pos ((sg_digit hP (by omega)).mpr hd)]
  · intro n i hi hb
    show fX1_faultOf_L2 k c a1 (nI most) (n + 1) (nI i) = fX1_faultOf_L2 k c a1 (nI most) n (nI (i + 1))
    rw [fX1_faultOf_L2, if_neg (by rw [p2]; exact nI_ge hi (by omega)), if_neg (nI_ge (by omega) (by omega)), digit_c hP hi]
    simp only [Option.bind_some]
    rw [if_neg (fun q => hb (Or.inr ((sg_digit hP (by omega)).mp q))), inc_n]
theorem fault_m {c m : SS} (hP : PR c m) (k : Unit → Option Int32) (a2 : Int32) (most : Nat) (hm : most ≤ 20) : ∀ n, vK c < n → (∃ i, i < vK c ∧ (most ≤ i ∨ ¬ dg (c.2 0 i)) ∧ (∀ j, j < i → ¬ (most ≤ j ∨ ¬ dg (c.2 0 j))) ∧ fX7_faultOfDigits_L2 k m (nI most) a2 n (nI 0) = some (nI i)) ∨ ((∀ j, j < vK c → ¬ (most ≤ j ∨ ¬ dg (c.2 0 j))) ∧ fX7_faultOfDigits_L2 k m (nI most) a2 n (nI 0) = k ()) := by
  obtain ⟨p1, ⟨p2, p3⟩, p4⟩ := hP
  intro n hn
  have hin : ∀ i, i < 20 → (fX7_in (m.2 15 i).toInt64 (48 : Int64) (57 : Int64) = 0 ↔ ¬ dg (c.2 0 i)) := by
    intro i hi
    rw [lin, ite0, (p4 i hi).1]
    exact Iff.rfl
  have hh := for_find (fun n i => fX7_faultOfDigits_L2 k m (nI most) a2 n (nI i)) (vK c) (fun i => i = most ∨ ¬ dg (c.2 0 i)) (k ()) (fun i => some (nI i)) ?_ ?_ ?_ n hn
  · rcases hh with ⟨i, h1, h2, h3, h4⟩ | ⟨h1, h2⟩
    · refine Or.inl ⟨i, h1, ?_, fun j hj hb => ?_, h4⟩
      · rcases h2 with h2 | h2
        · left; omega
        · right; exact h2
      · rcases hb with hb | hb
        · exact h3 most (by omega) (Or.inl rfl)
        · exact h3 j hj (Or.inr hb)
    · refine Or.inr ⟨fun j hj hb => ?_, h2⟩
      rcases hb with hb | hb
      · exact h1 most (by omega) (Or.inl rfl)
      · exact h1 j hj (Or.inr hb)
  · intro n
    show fX7_faultOfDigits_L2 k m (nI most) a2 (n + 1) (nI (vK c)) = _
    rw [fX7_faultOfDigits_L2, if_pos (by rw [p1, ← p2]; exact Int32.le_refl _)]
  · intro n i hi hb
    show fX7_faultOfDigits_L2 k m (nI most) a2 (n + 1) (nI i) = _
    rw [fX7_faultOfDigits_L2, if_neg (by rw [p1, p2]; exact nI_ge hi (by omega))]
    by_cases h2 : i = most
    · rw [if_pos (by rw [h2])]
    · rw [if_neg (fun q => h2 ((nI_eq (by omega) (by omega)).mp q)), ald_n (by omega) (by decide)]
      have hd : ¬ dg (c.2 0 i) := by
        rcases hb with hb | hb
        · exact absurd hb h2
        · exact hb
      rw [if_pos ((hin i (by omega)).mpr hd)]
  · intro n i hi hb
    show fX7_faultOfDigits_L2 k m (nI most) a2 (n + 1) (nI i) = fX7_faultOfDigits_L2 k m (nI most) a2 n (nI (i + 1))
    rw [fX7_faultOfDigits_L2, if_neg (by rw [p1, p2]; exact nI_ge hi (by omega)), if_neg (fun q => hb (Or.inl ((nI_eq (by omega) (by omega)).mp q))), ald_n (by omega) (by decide), if_neg (fun q => hb (Or.inr ((hin i (by omega)).mp q))), inc_n]
/-- the fault, by both -/
theorem fault_s {c m : SS} (hP : PR c m) (least most : Nat) (hl : least ≤ 20) (hm : most ≤ 20) : ∃ r, fX1_faultOf c (nI least) (nI most) = some r ∧ fX7_faultOfDigits m (nI most) (nI least) = some r ∧ ((r = -6 ∧ least ≤ vK c ∧ vK c ≤ most ∧ ∀ j, j < vK c → dg (c.2 0 j)) ∨ ∃ i, i ≤ 20 ∧ r = nI i) := by
  have p1 := hP.1
  have p2 := hP.2.1.1
  have p3 := hP.2.1.2
  have h1 := fault_c hP (fun _ => if nI least ≤ c.1 0 then some (-6) else some (c.1 0)) (nI least) most hm fu (fu_big (by omega))
  have h2 := fault_m hP (fun _ => if nI least ≤ m.1 16 then some (-6) else some (m.1 16)) (nI least) most hm fu (fu_big (by omega))
  have e1 : fX1_faultOf c (nI least) (nI most) = fX1_faultOf_L2 (fun _ => if nI least ≤ c.1 0 then some (-6) else some (c.1 0)) c (nI least) (nI most) fu (nI 0) := rfl
  have e2 : fX7_faultOfDigits m (nI most) (nI least) = fX7_faultOfDigits_L2 (fun _ => if nI least ≤ m.1 16 then some (-6) else some (m.1 16)) m (nI most) (nI least) fu (nI 0) := rfl
  rw [p1] at h2 e2
  rw [e1, e2, ← find_same h1 h2]
  rcases h1 with ⟨i, g1, g2, g3, g4⟩ | ⟨g1, g2⟩
  · exact ⟨_, g4, g4, Or.inr ⟨i, by omega, rfl⟩⟩
  · rw [g2]
    by_cases hk : least ≤ vK c
    · rw [p2, if_pos (nI_le hk (by omega))]
      refine ⟨_, rfl, rfl, Or.inl ⟨rfl, hk, ?_, fun j hj => ?_⟩⟩
      · apply Nat.le_of_not_lt
        intro q
        exact g1 most q (Or.inl (Nat.le_refl _))
      · apply Classical.byContradiction
        intro q
        exact g1 j hj (Or.inr q)
    · rw [p2, if_neg (nI_ge (by omega) (by omega))]
      exact ⟨_, rfl, rfl, Or.inr ⟨vK c, by omega, rfl⟩⟩
theorem ok_fault : OK_fault Inv := by
  intro c m i0 i1 a h
  obtain ⟨hW, hR, hP, hi⟩ := h
  obtain ⟨⟨n1, n2, n3⟩, -⟩ := id hW
  unfold fX6_fault fX7_fault
  by_cases h0 : a = 0
  · obtain ⟨r, e1, e2, -⟩ := fault_s hP 1 6 (by omega) (by omega)
    have e1' : fX1_faultOf c 1 6 = some r := e1
    have e2' : fX7_faultOfDigits m 6 1 = some r := e2
    rw [if_pos h0, if_pos h0, e1', e2']
    exact ⟨_, rfl, rfl, hW, hR, hP, hi⟩
  · rw [if_neg h0, if_neg h0]
    by_cases h1 : a = 1
    · obtain ⟨r, e1, e2, -⟩ := fault_s hP (vn c) (vn c) (by omega) (by omega)
      rw [if_pos h1, if_pos h1, hR.1, n1, e1, e2]
      exact ⟨_, rfl, rfl, hW, hR, hP, hi⟩
    · rw [if_neg h1, if_neg h1]
      exact ⟨_, rfl, rfl, hW, hR, hP, hi⟩
/-- a row filled from a place on -/
theorem lpA (k o N : Nat) (g : Nat → Int32) (c : SS) : (lp N (fun i s => sA s k (o + i) (g i)) c).1 = c.1 ∧ (∀ j, j ≠ k → (lp N (fun i s => sA s k (o + i) (g i)) c).2 j = c.2 j) ∧ ∀ j, (lp N (fun i s => sA s k (o + i) (g i)) c).2 k j = if o ≤ j ∧ j < o + N then g (j - o) else c.2 k j := by
  induction N with
  | zero => exact ⟨rfl, fun _ _ => rfl, fun j => by rw [if_neg (by omega)]; rfl⟩
  | succ N ih =>
    obtain ⟨h1, h2, h3⟩ := ih
    rw [lp_s]
    refine ⟨?_, fun j hj => ?_, fun j => ?_⟩
    · rw [sA_1, h1]
    · rw [sA_2, if_neg hj, h2 j hj]
    · rw [sA_2, if_pos rfl, upd_e, h3]
      by_cases hj : j = o + N
      · rw [if_pos hj, if_pos (by omega)]; congr 1; omega
      · rw [if_neg hj]
        by_cases h5 : o ≤ j ∧ j < o + N
        · rw [if_pos h5, if_pos (by omega)]
        · rw [if_neg h5, if_neg (by omega)]
