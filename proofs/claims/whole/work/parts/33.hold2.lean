def big (c : SS) (i : Nat) : Prop := vE c < hd c i
def hS (c : SS) (i : Nat) : Nat := dlS (fun _ => false) (hd c) i
theorem hS_s (c : SS) (i : Nat) : hS c (i + 1) = hS c i + hd c i := rfl
theorem hS_mono (c : SS) {i j : Nat} (h : i ≤ j) : hS c i ≤ hS c j := by
  induction j with
  | zero => obtain rfl : i = 0 := by omega
            exact Nat.le_refl _
  | succ j ih =>
    by_cases e : i = j + 1
    · rw [e]; exact Nat.le_refl _
    · rw [hS_s]; have := ih (by omega); omega
/-- what the reference has judged behind i stops -/
def JS (c : SS) (i : Nat) (bs bw : Int32) : Prop := (∃ e, e < i ∧ big c e ∧ (∀ j, j < e → ¬ big c j) ∧ bs = nI e ∧ bw = 1) ∨ ((∀ j, j < i → ¬ big c j) ∧ ∃ b, b < i ∧ vB c < hS c (b + 1) ∧ hS c b ≤ vB c ∧ bs = nI b ∧ bw = 2) ∨ ((∀ j, j < i → ¬ big c j) ∧ hS c i ≤ vB c ∧ bs = -6 ∧ bw = -6)
theorem judge_m {c m : SS} (hW : WOK c) (hR : WR c m) (hP : PR c m) (hf : HF c) : ∃ z, fX7_judgeHold m = some z ∧ (∀ k, k ≠ 19 → k ≠ 20 → z.1 k = m.1 k) ∧ (∀ j, j ≠ 17 → z.2 j = m.2 j) ∧ (∀ s, s < vn c → z.2 17 s = nI (hd c s)) ∧ JS c (vn c) (z.1 19) (z.1 20) := by
  obtain ⟨⟨n1, n2, n3⟩, -, ⟨b1, b2⟩, ⟨e1, e2⟩, -⟩ := id hW
  obtain ⟨r1, r2, r3, r4, r5, -⟩ := id hR
  have hS9 := hdS_le hf
  unfold fX7_judgeHold
  have hh := for_inv (fun n i z => fX7_judgeHold_L16 n (nI (hS c i)) (nI i) z) (vn c) some (fun i z => (∀ k, k ≠ 19 → k ≠ 20 → z.1 k = m.1 k) ∧ (∀ j, j ≠ 17 → z.2 j = m.2 j) ∧ (∀ s, s < i → z.2 17 s = nI (hd c s)) ∧ JS c i (z.1 19) (z.1 20)) ?_ ?_ fu (sF (sF m 19 (-6)) 20 (-6)) (fu_big (by omega)) ?_
  · obtain ⟨z, ⟨g1, g2, g3, g4⟩, g5⟩ := hh
    exact ⟨z, g5, g1, g2, g3, g4⟩
  · intro n i z hi ⟨z1, z2, z3, z4⟩
    show ∃ s2, _ ∧ fX7_judgeHold_L16 (n + 1) (nI (hS c i)) (nI i) z = fX7_judgeHold_L16 n (nI (hS c (i + 1))) (nI (i + 1)) s2
    obtain ⟨hd1, hd2⟩ := hd_le hf hi
    have hi6 : i < 6 := by omega
    have h9 : hS c i + hd c i ≤ 9 * (i + 1) := hS9 (i + 1) (by omega)
    have z0 : z.1 0 = nI (vn c) := by rw [z1 0 (by omega) (by omega), r1, n1]
    have z10 : z.1 10 = nI (vB c) := by rw [z1 10 (by omega) (by omega), r4, b1]
    have z11 : z.1 11 = nI (vE c) := by rw [z1 11 (by omega) (by omega), r5, e1]
    have zo : fX7_isOpen z (nI i) = 0 ↔ bt (c.1 2) i = true := by rw [open_m z (by omega), z1 2 (by omega) (by omega), r2]
    have epad : ald 20 (z.2 15) (nI i) = fun (K : Int32 → Option SS) => K (c.2 0 i) := by
      funext K
      rw [ald_n (by omega) (by decide), z2 15 (by omega), (hP.2.2 i (by omega)).1]
    -- the hold's own step
    have hold : ∀ G : Int32 → Option SS, jn G (fun j50 => if fX7_isOpen z (nI i) = 0 then j50 0 else ald 20 (z.2 15) (nI i) (fun v => j50 (v - 48))) = G (nI (hd c i)) := by
      intro G
      rw [jn_e]
      show (if fX7_isOpen z (nI i) = 0 then G 0 else ald 20 (z.2 15) (nI i) (fun v => G (v - 48))) = _
      cases hb : bt (c.1 2) i with
      | true =>
        rw [if_pos (zo.mpr hb)]
        have : hd c i = 0 := by unfold hd; rw [hb]; rfl
        rw [this]; rfl
      | false =>
        rw [if_neg (fun q => by have := zo.mp q; rw [hb] at this; cases this), epad]
        show G (c.2 0 i - 48) = _
        rw [hd2 hb]
    have upd0 : upd (z.2 17) i (nI (hd c i)) i = nI (hd c i) := by rw [upd_e, if_pos rfl]
    rw [fX7_judgeHold_L16, if_neg (by rw [z0]; exact nI_ge hi (by omega))]
    rw [hold]
    simp only [jn_e, ckb_n hi6 (show 6 < 2 ^ 31 by decide), ald_n hi6 (show 6 < 2 ^ 31 by decide), inc_n, nI_clamp (show i < 2 ^ 31 by omega), upd0, nI_add, z10, z11]
    have hle1 : (nI (hd c i) ≤ nI (vE c)) ↔ ¬ big c i := by
      rw [nI_leI (by omega) (by omega)]; unfold big; omega
    have hlt2 : (nI (vB c) < nI (hS c i)) ↔ vB c < hS c i := nI_ltI (by omega) (by omega)
    have hle3 : (nI (hS c i + hd c i) ≤ nI (vB c)) ↔ hS c (i + 1) ≤ vB c := by rw [nI_leI (by omega) (by omega), hS_s]
    simp only [hlt2, hle3]
    have gB : big c i → ¬ (nI (hd c i) ≤ nI (vE c)) := fun hb q => hle1.mp q hb
    have gN : ¬ big c i → nI (hd c i) ≤ nI (vE c) := fun hb => hle1.mpr hb
    have keep : ∀ w : SS, w.1 = z.1 ∨ (∀ k, k ≠ 19 → k ≠ 20 → w.1 k = z.1 k) → w.2 = (sA z 17 i (nI (hd c i))).2 → JS c (i + 1) (w.1 19) (w.1 20) → (∀ k, k ≠ 19 → k ≠ 20 → w.1 k = m.1 k) ∧ (∀ j, j ≠ 17 → w.2 j = m.2 j) ∧ (∀ s, s < i + 1 → w.2 17 s = nI (hd c s)) ∧ JS c (i + 1) (w.1 19) (w.1 20) := by
      intro w hw hw2 hJ
      refine ⟨fun k h1 h2 => ?_, fun j hj => ?_, fun s hs => ?_, hJ⟩
      · rcases hw with hw | hw
        · rw [hw]; exact z1 k h1 h2
        · rw [hw k h1 h2]; exact z1 k h1 h2
      · rw [hw2, sA_2, if_neg hj]; exact z2 j hj
      · rw [hw2, sA_2, if_pos rfl, upd_e]
        by_cases hsi : s = i
        · rw [if_pos hsi, hsi]
        · rw [if_neg hsi]; exact z3 s (by omega)
    rcases z4 with ⟨e, q1, q2, q3, q4, q5⟩ | ⟨q0, b, q1, q2, q3, q4, q5⟩ | ⟨q0, q1, q2, q3⟩
    · -- found by EACH
      simp only [q5, if_true, show (0 : Int32) ≤ 1 by decide]
      refine ⟨sA z 17 i (nI (hd c i)), keep _ (Or.inl rfl) rfl (Or.inl ⟨e, by omega, q2, q3, q4, q5⟩), ?_⟩
      by_cases hb : big c i
      · simp [hb, hS_s]
      · simp [hb, hS_s]
    · -- found by BREATHS
      have hn1 : ¬ hS c i ≤ vB c := by have := hS_mono c (i := b + 1) (j := i) (by omega); omega
      simp only [q5, show ¬ (2 : Int32) = 1 by decide, if_false, show (0 : Int32) ≤ 2 by decide, if_true]
      by_cases hb : big c i
      · refine ⟨sF (sF (sA z 17 i (nI (hd c i))) 19 (nI i)) 20 1, keep _ (Or.inr (fun k h1 h2 => ?_)) rfl (Or.inl ⟨i, by omega, hb, q0, rfl, rfl⟩), ?_⟩
        · rw [sF_1, if_neg h2, sF_1, if_neg h1, sA_1]
        · simp [gB hb, hS_s]
      · refine ⟨sA z 17 i (nI (hd c i)), keep _ (Or.inl rfl) rfl (Or.inr (Or.inl ⟨fun j hj => ?_, b, by omega, q2, q3, q4, q5⟩)), ?_⟩
        · by_cases e : j = i
          · rw [e]; exact hb
          · exact q0 j (by omega)
        · simp [gN hb, hS_s]
    · have hn1 : ¬ vB c < hS c i := by omega
      simp only [q3, hn1, if_false, show ¬ (-6 : Int32) = 1 by decide, show ¬ (0 : Int32) ≤ -6 by decide]
      by_cases hb : big c i
      · refine ⟨sF (sF (sA z 17 i (nI (hd c i))) 19 (nI i)) 20 1, keep _ (Or.inr (fun k h1 h2 => ?_)) rfl (Or.inl ⟨i, by omega, hb, q0, rfl, rfl⟩), ?_⟩
        · rw [sF_1, if_neg h2, sF_1, if_neg h1, sA_1]
        · simp [gB hb, hS_s]
      · have q0' : ∀ j, j < i + 1 → ¬ big c j := fun j hj => by
          by_cases e : j = i
          · rw [e]; exact hb
          · exact q0 j (by omega)
        by_cases ho : hS c (i + 1) ≤ vB c
        · refine ⟨sA z 17 i (nI (hd c i)), keep _ (Or.inl rfl) rfl (Or.inr (Or.inr ⟨q0', ho, q2, q3⟩)), ?_⟩
          rw [hS_s] at ho ⊢
          simp [gN hb, ho]
        · refine ⟨sF (sF (sA z 17 i (nI (hd c i))) 19 (nI i)) 20 2, keep _ (Or.inr (fun k h1 h2 => ?_)) rfl (Or.inr (Or.inl ⟨q0', i, by omega, by omega, q1, rfl, rfl⟩)), ?_⟩
          · rw [sF_1, if_neg h2, sF_1, if_neg h1, sA_1]
          · rw [hS_s] at ho ⊢
            simp [gN hb, ho]
  · intro n z ⟨z1, z2, z3, z4⟩
    show fX7_judgeHold_L16 (n + 1) _ (nI (vn c)) z = some z
    rw [fX7_judgeHold_L16, if_pos (by rw [z1 0 (by omega) (by omega), r1, n1]; exact Int32.le_refl _)]
  · refine ⟨fun k h1 h2 => ?_, fun _ _ => rfl, fun s hs => absurd hs (by omega), Or.inr (Or.inr ⟨fun j hj => absurd hj (by omega), Nat.zero_le _, rfl, rfl⟩)⟩
    rw [sF_1, if_neg h2, sF_1, if_neg h1]
