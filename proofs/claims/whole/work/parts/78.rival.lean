/-! rival -/
def rv_J (c m : SS) (S i : Nat) (z : SS) : Prop := FX m z ∧ (∀ a, a < 6 ^ vn c → rv_ok c a → (S < psm (rv_d a) (vn c) ∨ (psm (rv_d a) (vn c) = S ∧ 6 ^ vn c ≤ a + i)) → rv_R c z a) ∧ (S = 0 → i = 6 ^ vn c → z.1 26 = rv_cF (gF c (vB c) (fun _ => 0)))
theorem pow6_le {n : Nat} (h : n ≤ 6) : 6 ^ n ≤ 46656 := Nat.le_trans (Nat.pow_le_pow_right (by decide) h) (by decide)
theorem rv_R_of {c z y : SS} {a : Nat} (h : rv_R c z a) (h1 : y.2 24 (4 * a) = z.2 24 (4 * a) ∧ y.2 25 (4 * a) = z.2 25 (4 * a)) (h2 : y.2 24 (4 * a + 2) = z.2 24 (4 * a + 2) ∧ y.2 25 (4 * a + 2) = z.2 25 (4 * a + 2)) : rv_R c y a := by
  unfold rv_R at *
  rw [h1.1, h1.2, h2.1, h2.2]
  exact h
theorem rv_one {c m z : SS} (hW : WOK c) (hR : WR c m) (hB5 : vB c ≤ 5) {S i : Nat} (hi : i < 6 ^ vn c) (h : rv_J c m S i z) (K : SS → Option (Int32 × SS)) : ∃ y, rv_J c m S (i + 1) y ∧ (Option.bind (fX7_layNumber z (nI (6 ^ vn c - (i + 1)))) (fun q6 => jn (fun (c7 : SS) => K c7) (fun j70 => if q6.1 = (0 : Int32) then j70 q6.2 else Option.bind (fX7_heldIn q6.2) (fun q9 => if q9 = nI S then Option.bind (fX7_settle q6.2 (nI (6 ^ vn c - (i + 1)))) (fun q11 => j70 q11) else j70 q6.2)))) = K y := by
  obtain ⟨⟨n1, n2, n3⟩, -, ⟨b1, b2⟩, ⟨e1, e2⟩, -⟩ := id hW
  have hp6 := pow6_le n3
  obtain ⟨h1, h2, h3⟩ := h
  generalize ha : 6 ^ vn c - (i + 1) = a
  have ha2 : a < 46656 := by omega
  obtain ⟨r, y, l1, l2, l3, l4⟩ := lay_m hW hR h1 ha2
  rw [l1, Option.bind_some]
  simp only [jn_e]
  have hy : FX m y := ⟨fun k hk => by rw [l2]; exact h1.1 k hk, fun j h17 h18 h24 h25 => by rw [l3 j h17]; exact h1.2 j h17 h18 h24 h25⟩
  have yrow : ∀ a', a' < 6 ^ vn c → rv_ok c a' → (S < psm (rv_d a') (vn c) ∨ (psm (rv_d a') (vn c) = S ∧ 6 ^ vn c ≤ a' + i)) → rv_R c y a' := fun a' q1 q2 q3 => rv_R_of (h2 a' q1 q2 q3) (by rw [l3 24 (by omega), l3 25 (by omega)]; exact ⟨rfl, rfl⟩) (by rw [l3 24 (by omega), l3 25 (by omega)]; exact ⟨rfl, rfl⟩)
  -- where nothing is settled
  have skip : ¬ (rv_ok c a ∧ psm (rv_d a) (vn c) = S) → rv_J c m S (i + 1) y := by
    intro hn
    refine ⟨hy, fun a' q1 q2 q3 => ?_, fun s0 s1 => ?_⟩
    · by_cases e : a' = a
      · subst e
        rcases q3 with q3 | q3
        · exact yrow a' q1 q2 (Or.inl q3)
        · exact absurd ⟨q2, q3.1⟩ hn
      · exact yrow a' q1 q2 (q3.imp id (fun w => ⟨w.1, by omega⟩))
    · exfalso
      apply hn
      have e0 : a = 0 := by omega
      rw [e0, s0]
      unfold rv_ok
      rw [rv_d0]
      have hp0 : psm (fun _ => 0) (vn c) = 0 := by
        have : ∀ k, psm (fun _ => 0) k = 0 := by
          intro k
          induction k with
          | zero => rfl
          | succ k ih => show psm (fun _ => 0) k + 0 = 0; rw [ih]
        exact this _
      exact ⟨⟨fun _ => Nat.zero_le _, fun _ _ => rfl, fun _ _ => rfl, by rw [hp0]; exact Nat.zero_le _⟩, hp0⟩
  rcases l4 with ⟨rfl, l5⟩ | ⟨rfl, l5, l6⟩
  · rw [if_pos trivial]
    exact ⟨y, skip (fun w => l5 w.1), rfl⟩
  · rw [if_neg (show ¬ (1 : Int32) = 0 by decide)]
    have hps := psm_le (h := rv_d a) (E := 5) (rv_dl a) (vn c)
    have hin : fX7_heldIn y = some (nI (psm (rv_d a) (vn c))) := heldIn_m n3 (by rw [hy.1 0 (by omega), hR.1]; exact n1) l6
    rw [hin, Option.bind_some]
    by_cases hS : psm (rv_d a) (vn c) = S
    · rw [if_pos (by rw [hS])]
      obtain ⟨y2, s1, s2, s3, s4, s5⟩ := settle_m hW hR hy ha2 l5 l6 (fun hlt s hs hc => by
        have hcc : bt (c.1 2) s = false ∧ rv_d a s < vE c := by
          unfold cn2 at hc
          rw [Dh_dd, Bool.and_eq_true, decide_eq_true_eq, Bool.not_eq_true'] at hc
          exact hc
        have hle : rv_d a s ≤ psm (rv_d a) (vn c) := by
          have key : ∀ k, s < k → rv_d a s ≤ psm (rv_d a) k := by
            intro k
            induction k with
            | zero => intro w; omega
            | succ k ih =>
              intro w
              show _ ≤ psm (rv_d a) k + rv_d a k
              by_cases e : s = k
              · rw [e]; omega
              · have := ih (by omega); omega
          exact key _ hs
        obtain ⟨u1, u2⟩ := rv_add ha2 (show s < 6 by omega) (by omega)
        refine ⟨u1, u2, ?_⟩
        have hps2 : psm (uh (rv_d a) s (rv_d a s + 1)) (vn c) = psm (rv_d a) (vn c) + 1 := by
          have := congrFun (Dh_up (rv_d a) s) (vn c - 1)
          have dN : ∀ X : Nat → Nat, Dh X (vn c - 1) = psm X (vn c) := fun X => by
            unfold Dh
            rw [show vn c - 1 + 1 = vn c by omega]
          unfold up at this
          rw [if_pos (by omega), dN, dN] at this
          exact this
        have ok2 : rv_ok c (a + 6 ^ s) := by
          unfold rv_ok
          rw [u2]
          refine ⟨fun j => ?_, fun j hj => ?_, fun j hj => ?_, by rw [hps2]; omega⟩
          · unfold uh
            split
            · omega
            · exact l5.1 j
          · unfold uh
            by_cases e : j = s
            · rw [e, hcc.1] at hj; cases hj
            · rw [if_neg e]; exact l5.2.1 j hj
          · unfold uh
            rw [if_neg (by omega)]; exact l5.2.2.1 j hj
        refine yrow (a + 6 ^ s) (rv_lt6 u1 n3 ok2.2.2.1) ok2 (Or.inl ?_)
        rw [u2, hps2]; omega)
      rw [s1, Option.bind_some]
      refine ⟨y2, ⟨s2, fun a' q1 q2 q3 => ?_, fun s0 s1 => ?_⟩, rfl⟩
      · by_cases e : a' = a
        · rw [e]; exact s3
        · exact rv_R_of (yrow a' q1 q2 (q3.imp id (fun w => ⟨w.1, by omega⟩))) (s4 _ (by omega)) (s4 _ (by omega))
      · have e0 : a = 0 := by omega
        rw [s5, hS, s0, Nat.sub_zero, e0, rv_d0]
        congr 1
        refine (gV_cg hW (vB c) _ _ (fun t _ => ?_)).2
        show psm (fun _ => 0) (t + 1) = 0
        have : ∀ k, psm (fun _ => 0) k = 0 := by
          intro k
          induction k with
          | zero => rfl
          | succ k ih => show psm (fun _ => 0) k + 0 = 0; rw [ih]
        exact this _
    · rw [if_neg (fun w => by
        by_cases hSb : S < 2 ^ 31
        · exact hS ((nI_eq (by omega) hSb).mp w)
        · sorry)]
      exact ⟨y, skip (fun w => hS w.2), rfl⟩
