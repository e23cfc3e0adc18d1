theorem tT_le : ∀ n : Fin 7, ∀ B : Fin 11, tT n.val B.val ≤ 8008 := by decide +kernel
theorem tT_fu {n B : Nat} (hn : n ≤ 6) (hB : B ≤ 10) : tT n B ≤ fu := Nat.le_trans (tT_le ⟨n, by omega⟩ ⟨B, by omega⟩) (by unfold fu; decide)
theorem psm_le {h : Nat → Nat} {E : Nat} (hE : ∀ j, h j ≤ E) : ∀ k, psm h k ≤ E * k := by
  intro k
  induction k with
  | zero => exact Nat.le_refl _
  | succ k ih =>
    have := hE k
    have e : E * (k + 1) = E * k + E := Nat.mul_succ E k
    show psm h k + h k ≤ _
    omega
theorem nI_subn (a b : Nat) : nI (a + b) - nI b = nI a := by
  rw [← nI_add, Int32.add_sub_cancel]
/-- the reference's hold -/
def HR (z : SS) (h : Nat → Nat) : Prop := ∀ j, j < 6 → z.2 17 j = nI (h j)
theorem heldIn_m {z : SS} {h : Nat → Nat} {n : Nat} (hn : n ≤ 6) (z0 : z.1 0 = nI n) (hr : HR z h) : fX7_heldIn z = some (nI (psm h n)) := by
  unfold fX7_heldIn
  refine for_up0 (fun k i (_ : Unit) => fX7_heldIn_L4 z k (nI (psm h i)) (nI i)) n (fun _ u => u) (fun _ => some (nI (psm h n))) ?_ ?_ fu () (fu_big (by omega))
  · intro k i _ hi
    show fX7_heldIn_L4 z (k + 1) (nI (psm h i)) (nI i) = fX7_heldIn_L4 z k (nI (psm h (i + 1))) (nI (i + 1))
    rw [fX7_heldIn_L4, if_neg (by rw [z0]; exact nI_ge hi (by omega)), ald_n (by omega) (by decide), hr i (by omega), nI_add, inc_n]
    rfl
  · intro k _
    show fX7_heldIn_L4 z (k + 1) (nI (psm h n)) (nI n) = _
    rw [fX7_heldIn_L4, if_pos (by rw [z0]; exact Int32.le_refl _)]
theorem HR_set {z : SS} {h : Nat → Nat} (hr : HR z h) (i x : Nat) : HR (sA z 17 i (nI x)) (uh h i x) := by
  intro j hj
  rw [sA_2, if_pos rfl, upd_e]
  unfold uh
  by_cases e : j = i
  · rw [if_pos e, if_pos e]
  · rw [if_neg e, if_neg e]; exact hr j hj
theorem nxl {sh : Int32} {E B : Nat} (hE : E ≤ 9) (hB : B ≤ 10) : ∀ i, i ≤ 6 → ∀ fl, i + 1 < fl → ∀ (h : Nat → Nat) (z : SS), HR z h → z.1 11 = nI E → z.1 2 = sh → (∀ j, h j ≤ E) →
    ∃ z2, fX7_nextHold_L15 (nI B) fl (nI i - 1) (nI (psm h i)) 0 z = some (if (nx1 (bt sh) E B i h).1 = true then 1 else 0, z2) ∧ z2.1 = z.1 ∧ (∀ j, j ≠ 17 → z2.2 j = z.2 j) ∧ HR z2 (nx1 (bt sh) E B i h).2 := by
  intro i
  induction i with
  | zero =>
    intro _ fl hfl h z hr _ _ _
    obtain ⟨f, rfl⟩ : ∃ f, fl = f + 1 := ⟨fl - 1, by omega⟩
    refine ⟨z, ?_, rfl, fun _ _ => rfl, hr⟩
    rw [fX7_nextHold_L15, if_pos (show nI 0 - 1 < (0 : Int32) by decide)]
    rfl
  | succ i ih =>
    intro hi fl hfl h z hr h11 h2 hb
    obtain ⟨f, rfl⟩ : ∃ f, fl = f + 1 := ⟨fl - 1, by omega⟩
    have hi6 : i < 6 := by omega
    have hps := psm_le hb (i + 1)
    have hps2 : E * (i + 1) ≤ 9 * 6 := Nat.mul_le_mul hE (by omega)
    have hbi := hb i
    have down : ¬ cn (bt sh) E B h i → ∃ z2, (ald 6 (z.2 17) (nI i) (fun v6 => ckb 6 (nI i) (fX7_nextHold_L15 (nI B) f (nI i + (-1 : Int32)) (nI (psm h (i + 1)) - v6) 0 (sA z 17 (nI i).toNatClampNeg (0 : Int32))))) = some (if (nx1 (bt sh) E B (i + 1) h).1 = true then 1 else 0, z2) ∧ z2.1 = z.1 ∧ (∀ j, j ≠ 17 → z2.2 j = z.2 j) ∧ HR z2 (nx1 (bt sh) E B (i + 1) h).2 := by
      intro hc
      rw [ald_n hi6 (by decide), ckb_n hi6 (by decide), nI_clamp (by omega), hr i hi6, ← Int32.sub_eq_add_neg, show psm h (i + 1) = psm h i + h i from rfl, nI_subn]
      rw [nx1, if_neg hc, ← psm_u (h := h) (i := i) (x := 0) i (Nat.le_refl _)]
      obtain ⟨z2, g1, g2, g3, g4⟩ := ih (by omega) f (by omega) (uh h i 0) (sA z 17 i (nI 0)) (HR_set hr i 0) h11 h2 (fun j => by
        unfold uh
        by_cases e : j = i
        · rw [if_pos e]; exact Nat.zero_le _
        · rw [if_neg e]; exact hb j)
      exact ⟨z2, g1, g2, fun j hj => by rw [g3 j hj, sA_2, if_neg hj], g4⟩
    rw [fX7_nextHold_L15, nI_pred, if_neg (nI_pos (by omega)), if_pos rfl, jn_e]
    by_cases ho : fX7_isOpen z (nI i) = 0
    · rw [if_pos ho]
      have hcl := (open_m z (show i < 32 by omega)).mp ho
      rw [h2] at hcl
      exact down (fun q => by have := q.1; rw [hcl] at this; cases this)
    · rw [if_neg ho]
      have hcl : bt sh i = false := by
        cases e : bt sh i with
        | false => rfl
        | true => exact absurd ((open_m z (show i < 32 by omega)).mpr (by rw [h2]; exact e)) ho
      rw [ald_n hi6 (by decide), hr i hi6, h11]
      by_cases c1 : E ≤ h i
      · rw [if_pos (nI_le c1 (by omega))]
        exact down (fun q => absurd q.2.1 (by omega))
      · rw [if_neg (nI_ge (by omega) (by omega))]
        by_cases c2 : B ≤ psm h (i + 1)
        · rw [if_pos (nI_le c2 (by omega))]
          exact down (fun q => absurd q.2.2 (by omega))
        · rw [if_neg (nI_ge (by omega) (by omega)), ald_n hi6 (by decide), hr i hi6, ckb_n hi6 (by decide), nI_clamp (by omega), inc_n]
          obtain ⟨f2, rfl⟩ : ∃ f2, f = f2 + 1 := ⟨f - 1, by omega⟩
          rw [nx1, if_pos (show cn (bt sh) E B h i from ⟨hcl, by omega, by omega⟩)]
          refine ⟨sA z 17 i (nI (h i + 1)), ?_, rfl, fun j hj => by rw [sA_2, if_neg hj], HR_set hr i (h i + 1)⟩
          rw [fX7_nextHold_L15, if_neg (nI_pos (by omega)), if_neg (show ¬ (1 : Int32) = 0 by decide)]
          rfl
theorem next_m {z : SS} {h : Nat → Nat} {n E B : Nat} {sh : Int32} (hn : n ≤ 6) (hE : E ≤ 9) (hB : B ≤ 10) (z0 : z.1 0 = nI n) (z2 : z.1 2 = sh) (z11 : z.1 11 = nI E) (hr : HR z h) (hb : ∀ j, h j ≤ E) :
    ∃ z2, fX7_nextHold z (nI B) = some (if (nx1 (bt sh) E B n h).1 = true then 1 else 0, z2) ∧ z2.1 = z.1 ∧ (∀ j, j ≠ 17 → z2.2 j = z.2 j) ∧ HR z2 (nx1 (bt sh) E B n h).2 := by
  unfold fX7_nextHold
  rw [heldIn_m hn z0 hr, Option.bind_some, z0]
  exact nxl hE hB n hn fu (fu_big (by omega)) h z hr z11 z2 hb
