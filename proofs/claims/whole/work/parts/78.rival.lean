/-! rival -/
def rv_J (c m : SS) (S i : Nat) (z : SS) : Prop := FX m z ∧ (∀ a, a < 6 ^ vn c → rv_ok c a → (S < psm (rv_d a) (vn c) ∨ (psm (rv_d a) (vn c) = S ∧ 6 ^ vn c ≤ a + i)) → rv_R c z a) ∧ (S = 0 → i = 6 ^ vn c → z.1 26 = rv_cF (gF c (vB c) (fun _ => 0)))
theorem pow6_le {n : Nat} (h : n ≤ 6) : 6 ^ n ≤ 46656 := Nat.le_trans (Nat.pow_le_pow_right (by decide) h) (by decide)
theorem rv_R_of {c z y : SS} {a : Nat} (h : rv_R c z a) (h1 : y.2 24 (4 * a) = z.2 24 (4 * a) ∧ y.2 25 (4 * a) = z.2 25 (4 * a)) (h2 : y.2 24 (4 * a + 2) = z.2 24 (4 * a + 2) ∧ y.2 25 (4 * a + 2) = z.2 25 (4 * a + 2)) : rv_R c y a := by
  unfold rv_R at *
  rw [h1.1, h1.2, h2.1, h2.2]
  exact h
theorem rv_one {c m z : SS} (hW : WOK c) (hR : WR c m) (hB5 : vB c ≤ 5) {S i : Nat} (hS9 : S ≤ 9) (hi : i < 6 ^ vn c) (h : rv_J c m S i z) (K : SS → Option (Int32 × SS)) : ∃ y, rv_J c m S (i + 1) y ∧ (Option.bind (fX7_layNumber z (nI (6 ^ vn c - (i + 1)))) (fun q6 => jn (fun (c7 : SS) => K c7) (fun j70 => if q6.1 = (0 : Int32) then j70 q6.2 else Option.bind (fX7_heldIn q6.2) (fun q9 => if q9 = nI S then Option.bind (fX7_settle q6.2 (nI (6 ^ vn c - (i + 1)))) (fun q11 => j70 q11) else j70 q6.2)))) = K y := by
  obtain ⟨⟨n1, n2, n3⟩, -, ⟨b1, b2⟩, ⟨e1, e2⟩, -⟩ := id hW
  have hp6 := pow6_le n3
  obtain ⟨h1, h2, h3⟩ := h
  generalize ha : 6 ^ vn c - (i + 1) = a
  have ha2 : a < 46656 := by omega
  obtain ⟨r, y, l1, l2, l3, l4⟩ := lay_m hW hR h1 ha2
  rw [l1, Option.bind_some]
  simp only [jn_e]
  have hy : FX m y := ⟨fun k hk => by rw [l2]; exact h1.1 k hk, fun j h17 h18 h24 h25 => by rw [l3 j h17]; exact h1.2 j h17 h18 h24 h25⟩
  have yrow : ∀ a', a' < 6 ^ vn c → rv_ok c a' → (S < psm (rv_d a') (vn c) ∨ (psm (rv_d a') (vn c) = S ∧ 6 ^ vn c ≤ a' + i)) → rv_R c y a' := fun a' q1 q2 q3 => rv_R_of (h2 a' q1 q2 q3) (by rw [l3 24 (by omega), l3 25 (by omega)]; exact ⟨rfl, rfl⟩) (by rw [l3 24 (by omega), l3 25 (by omega)]; exact ⟨rfl, rfl⟩)
  -- where nothing is settled
  have skip : ¬ (rv_ok c a ∧ psm (rv_d a) (vn c) = S) → rv_J c m S (i + 1) y := by
    intro hn
    refine ⟨hy, fun a' q1 q2 q3 => ?_, fun s0 s1 => ?_⟩
    · by_cases e : a' = a
      · subst e
        rcases q3 with q3 | q3
        · exact yrow a' q1 q2 (Or.inl q3)
        · exact absurd ⟨q2, q3.1⟩ hn
      · exact yrow a' q1 q2 (q3.imp id (fun w => ⟨w.1, by omega⟩))
    · exfalso
      apply hn
      have e0 : a = 0 := by omega
      rw [e0, s0]
      unfold rv_ok
      rw [rv_d0]
      have hp0 : psm (fun _ => 0) (vn c) = 0 := by
        have : ∀ k, psm (fun _ => 0) k = 0 := by
          intro k
          induction k with
          | zero => rfl
          | succ k ih => show psm (fun _ => 0) k + 0 = 0; rw [ih]
        exact this _
      exact ⟨⟨fun _ => Nat.zero_le _, fun _ _ => rfl, fun _ _ => rfl, by rw [hp0]; exact Nat.zero_le _⟩, hp0⟩
  rcases l4 with ⟨rfl, l5⟩ | ⟨rfl, l5, l6⟩
  · rw [if_pos rfl]
    exact ⟨y, skip (fun w => l5 w.1), rfl⟩
  · rw [if_neg (show ¬ (1 : Int32) = 0 by decide)]
    have hps := psm_le (h := rv_d a) (E := 5) (rv_dl a) (vn c)
    have hin : fX7_heldIn y = some (nI (psm (rv_d a) (vn c))) := heldIn_m n3 (by rw [hy.1 0 (by omega), hR.1]; exact n1) l6
    rw [hin, Option.bind_some]
    by_cases hS : psm (rv_d a) (vn c) = S
    · rw [if_pos (by rw [hS])]
      obtain ⟨y2, s1, s2, s3, s4, s5⟩ := settle_m hW hR hy ha2 l5 l6 (fun hlt s hs hc => by
        have hcc : bt (c.1 2) s = false ∧ rv_d a s < vE c := by
          unfold cn2 at hc
          rw [Dh_dd, Bool.and_eq_true, decide_eq_true_eq, Bool.not_eq_true'] at hc
          exact hc
        have hle : rv_d a s ≤ psm (rv_d a) (vn c) := by
          have key : ∀ k, s < k → rv_d a s ≤ psm (rv_d a) k := by
            intro k
            induction k with
            | zero => intro w; omega
            | succ k ih =>
              intro w
              show _ ≤ psm (rv_d a) k + rv_d a k
              by_cases e : s = k
              · rw [e]; omega
              · have := ih (by omega); omega
          exact key _ hs
        obtain ⟨u1, u2⟩ := rv_add ha2 (show s < 6 by omega) (by omega)
        refine ⟨u1, u2, ?_⟩
        have hps2 : psm (uh (rv_d a) s (rv_d a s + 1)) (vn c) = psm (rv_d a) (vn c) + 1 := by
          have := congrFun (Dh_up (rv_d a) s) (vn c - 1)
          have dN : ∀ X : Nat → Nat, Dh X (vn c - 1) = psm X (vn c) := fun X => by
            unfold Dh
            rw [show vn c - 1 + 1 = vn c by omega]
          unfold up at this
          rw [if_pos (by omega), dN, dN] at this
          exact this
        have ok2 : rv_ok c (a + 6 ^ s) := by
          unfold rv_ok
          rw [u2]
          refine ⟨fun j => ?_, fun j hj => ?_, fun j hj => ?_, by rw [hps2]; omega⟩
          · unfold uh
            split
            · omega
            · exact l5.1 j
          · unfold uh
            by_cases e : j = s
            · rw [e, hcc.1] at hj; cases hj
            · rw [if_neg e]; exact l5.2.1 j hj
          · unfold uh
            rw [if_neg (by omega)]; exact l5.2.2.1 j hj
        refine yrow (a + 6 ^ s) (rv_lt6 u1 n3 ok2.2.2.1) ok2 (Or.inl ?_)
        rw [u2, hps2]; omega)
      rw [s1, Option.bind_some]
      refine ⟨y2, ⟨s2, fun a' q1 q2 q3 => ?_, fun s0 s1 => ?_⟩, rfl⟩
      · by_cases e : a' = a
        · rw [e]; exact s3
        · exact rv_R_of (yrow a' q1 q2 (q3.imp id (fun w => ⟨w.1, by omega⟩))) (s4 _ (by omega)) (s4 _ (by omega))
      · have e0 : a = 0 := by omega
        rw [s5, hS, s0, Nat.sub_zero, e0, rv_d0]
        congr 1
        refine (gV_cg hW (vB c) _ _ (fun t _ => ?_)).2
        show psm (fun _ => 0) (t + 1) = 0
        have : ∀ k, psm (fun _ => 0) k = 0 := by
          intro k
          induction k with
          | zero => rfl
          | succ k ih => show psm (fun _ => 0) k + 0 = 0; rw [ih]
        exact this _
    · rw [if_neg (fun w => hS ((nI_eq (by omega) (by omega)).mp w))]
      exact ⟨y, skip (fun w => hS w.2), rfl⟩
theorem rv_num {c m z : SS} (hW : WOK c) (hR : WR c m) (hB5 : vB c ≤ 5) {S : Nat} (hS9 : S ≤ 9) (h : rv_J c m S 0 z) (a1 : Int32) (K : SS → Option (Int32 × SS)) : ∃ y, rv_J c m S (6 ^ vn c) y ∧ fX7_rival_L45 K a1 (nI S) fu (nI (6 ^ vn c) - 1) z = K y := by
  have hp6 := pow6_le hW.1.2.2
  have hf := for_inv (fun f i (q : SS) => fX7_rival_L45 K a1 (nI S) f (nI (6 ^ vn c - i) - 1) q) (6 ^ vn c) K (fun i q => rv_J c m S i q) ?_ ?_ fu z (fu_big (by omega)) h
  · obtain ⟨y, y1, y2⟩ := hf
    exact ⟨y, y1, y2⟩
  · intro f i q hi hq
    show ∃ q2, _ ∧ fX7_rival_L45 K a1 (nI S) (f + 1) (nI (6 ^ vn c - i) - 1) q = fX7_rival_L45 K a1 (nI S) f (nI (6 ^ vn c - (i + 1)) - 1) q2
    have e : nI (6 ^ vn c - i) - 1 = nI (6 ^ vn c - (i + 1)) := by rw [show 6 ^ vn c - i = 6 ^ vn c - (i + 1) + 1 by omega]; exact nI_pred _
    obtain ⟨y, y1, y2⟩ := rv_one hW hR hB5 hS9 hi hq (fun c7 => fX7_rival_L45 K a1 (nI S) f (nI (6 ^ vn c - (i + 1)) + (-1 : Int32)) c7)
    refine ⟨y, y1, ?_⟩
    rw [fX7_rival_L45, e, if_neg (nI_pos (by omega)), Int32.sub_eq_add_neg]
    exact y2
  · intro f q hq
    show fX7_rival_L45 K a1 (nI S) (f + 1) (nI (6 ^ vn c - 6 ^ vn c) - 1) q = K q
    rw [Nat.sub_self, fX7_rival_L45, if_pos (show nI 0 - 1 < (0 : Int32) by decide)]
theorem rv_all {c m : SS} (hW : WOK c) (hR : WR c m) (hB5 : vB c ≤ 5) (a1 : Int32) (K : SS → Option (Int32 × SS)) : ∃ y, FX m y ∧ rv_R c y 0 ∧ y.1 26 = rv_cF (gF c (vB c) (fun _ => 0)) ∧ fX7_rival_L31 K a1 fu (nI (vB c)) m = K y := by
  obtain ⟨⟨n1, n2, n3⟩, -, ⟨b1, b2⟩, -⟩ := id hW
  have hpos : 1 ≤ 6 ^ vn c := Nat.le_trans (Nat.one_le_two_pow (n := vn c)) (Nat.pow_le_pow_left (by decide) _)
  have hf := for_inv (fun f k (q : SS) => fX7_rival_L31 K a1 f (nI (vB c + 1 - k) - 1) q) (vB c + 1) K (fun k q => FX m q ∧ (∀ a, a < 6 ^ vn c → rv_ok c a → vB c + 1 ≤ psm (rv_d a) (vn c) + k → rv_R c q a) ∧ (k = vB c + 1 → q.1 26 = rv_cF (gF c (vB c) (fun _ => 0)))) ?_ ?_ fu m (fu_big (by omega)) ⟨⟨fun _ _ => rfl, fun _ _ _ _ _ => rfl⟩, fun a q1 q2 q3 => by have := q2.2.2.2; omega, fun w => by omega⟩
  · obtain ⟨y, ⟨y1, y2, y3⟩, e⟩ := hf
    refine ⟨y, y1, y2 0 (by omega) ?_ (by omega), y3 rfl, ?_⟩
    · unfold rv_ok
      rw [rv_d0]
      refine ⟨fun _ => Nat.zero_le _, fun _ _ => rfl, fun _ _ => rfl, ?_⟩
      have : ∀ k, psm (fun _ => 0) k = 0 := by
        intro k
        induction k with
        | zero => rfl
        | succ k ih => show psm (fun _ => 0) k + 0 = 0; rw [ih]
      rw [this]; exact Nat.zero_le _
    · rw [Nat.sub_zero, nI_pred] at e
      exact e
  · intro f k q hk ⟨g1, g2, g3⟩
    show ∃ q2, _ ∧ fX7_rival_L31 K a1 (f + 1) (nI (vB c + 1 - k) - 1) q = fX7_rival_L31 K a1 f (nI (vB c + 1 - (k + 1)) - 1) q2
    obtain ⟨S, hS⟩ : ∃ S, S = vB c - k := ⟨_, rfl⟩
    have e : nI (vB c + 1 - k) - 1 = nI S := by rw [show vB c + 1 - k = S + 1 by omega]; exact nI_pred _
    obtain ⟨y, y1, y2⟩ := rv_num hW hR hB5 (S := S) (by omega) (z := q) ⟨g1, fun a q1 q2 q3 => g2 a q1 q2 (by rcases q3 with w | w <;> omega), fun s0 s1 => by omega⟩ a1 (fun c12 => fX7_rival_L31 K a1 f (nI S + (-1 : Int32)) c12)
    refine ⟨y, ⟨y1.1, fun a q1 q2 q3 => ?_, fun w => y1.2.2 (by omega) rfl⟩, ?_⟩
    · refine y1.2.1 a q1 q2 ?_
      by_cases w : S < psm (rv_d a) (vn c)
      · exact Or.inl w
      · exact Or.inr ⟨by omega, by omega⟩
    · rw [fX7_rival_L31, e, if_neg (nI_pos (by omega)), show q.1 0 = nI (vn c) by rw [g1.1 0 (by omega), hR.1]; exact n1, power_m n3, Option.bind_some, show vB c + 1 - (k + 1) = S by omega, show nI S - 1 = nI S + (-1 : Int32) from Int32.sub_eq_add_neg _ _]
      exact y2
  · intro f q hq
    show fX7_rival_L31 K a1 (f + 1) (nI (vB c + 1 - (vB c + 1)) - 1) q = K q
    rw [Nat.sub_self, fX7_rival_L31, if_pos (show nI 0 - 1 < (0 : Int32) by decide)]
def rv_K (p1 : Int32) (c13 : SS) : Option (Int32 × SS) := if p1 = (0 : Int32) then ald 186624 (c13.2 24) (0 : Int32) (fun v17 => some (((1000 : Int32) + v17), c13)) else if p1 = (1 : Int32) then ald 186624 (c13.2 25) (0 : Int32) (fun v16 => some (((1000 : Int32) + v16), c13)) else some ((c13.1 26), c13)
theorem rvm_u {m : SS} {p1 : Int32} (h1 : ¬ fX7_in p1.toInt64 0 2 = 0) (h2 : m.1 10 ≤ 5) : fX7_rival m p1 = fX7_rival_L31 (rv_K p1) p1 fu (m.1 10) m := by
  unfold fX7_rival
  rw [if_neg h1, if_pos h2]
  rfl
theorem QC_cm {c y : SS} (h : QC c y) : CM c y := by
  obtain ⟨h1, h2, h3, h4, h5⟩ := h
  exact ⟨fun k hk => h1 k (by omega) (by omega) (by omega), fun k hk => h2 k hk, fun hx a ha => ⟨by rw [h5]; exact (hx a ha).1, h4 a ha⟩⟩
theorem ok_rival : OK_rival Inv := by
  intro c m i0 i1 p h
  obtain ⟨hW, hR, hP, hi0, hi1, hX⟩ := id h
  obtain ⟨⟨n1, n2, n3⟩, -, ⟨b1, b2⟩, -⟩ := id hW
  have w1 : (fX6_within p 0 2 = 0) ↔ ¬ (0 ≤ p.toInt ∧ p.toInt ≤ 2) := by rw [win, ite0]; rfl
  have v1 : (fX7_in p.toInt64 0 2 = 0) ↔ ¬ (0 ≤ p.toInt ∧ p.toInt ≤ 2) := by rw [lin, ite0]; rfl
  by_cases hp : 0 ≤ p.toInt ∧ p.toInt ≤ 2
  · by_cases hB : vB c ≤ 5
    · have m5 : m.1 10 ≤ 5 := by rw [hR.2.2.2.1, b1]; exact nI_le (b := 5) hB (by decide)
      have c5 : c.1 3 ≤ 5 := by rw [b1]; exact nI_le (b := 5) hB (by decide)
      obtain ⟨y1, a1, a2, a3⟩ := meas_c hW (PC.rf c)
      obtain ⟨y, y2, y3, y4, y5⟩ := rv_play hW hX hB a2 a3
      obtain ⟨z, z1, z2, z3, z4⟩ := rv_all hW hR hB p (rv_K p)
      have hI2 := Inv_of h (QC_cm y3) z1.ms
      rw [rvm_u (fun q => v1.mp q hp) m5, hR.2.2.2.1, b1, z4]
      unfold fX6_rival
      rw [if_neg (fun q => w1.mp q hp), if_pos c5, a1, Option.bind_some, y2, Option.bind_some]
      have hz : ∀ k, psm (fun _ => 0) k = 0 := by
        intro k
        induction k with
        | zero => rfl
        | succ k ih => show psm (fun _ => 0) k + 0 = 0; rw [ih]
      have hg : gV c (vB c - psm (rv_d 0) (vn c)) (Dh (rv_d 0)) = gV c (vB c) (fun _ => 0) := by
        rw [rv_d0, hz, Nat.sub_zero]
        exact (gV_cg hW (vB c) _ _ (fun t _ => hz (t + 1))).1
      unfold rv_R at z2
      rw [hg, Nat.mul_zero] at z2
      have hpb := (gV_bd hW (vB c) (fun _ => 0)).1
      obtain ⟨d1, d2⟩ := rv_dm hpb
      have hp3 : p = 0 ∨ p = 1 ∨ p = 2 := by
        have : p.toInt = 0 ∨ p.toInt = 1 ∨ p.toInt = 2 := by omega
        rcases this with q | q | q
        · exact Or.inl (Int32.toInt_inj.mp q)
        · exact Or.inr (Or.inl (Int32.toInt_inj.mp q))
        · exact Or.inr (Or.inr (Int32.toInt_inj.mp q))
      have s5 : ∀ x : Int, iI (x + 500) - (500 : Int32) = iI x := fun x => by
        rw [← iI_add, show (500 : Int32) = iI 500 from rfl, Int32.add_sub_cancel]
      unfold rv_K
      rcases hp3 with rfl | rfl | rfl
      · rw [if_neg (show ¬ (0 : Int32) = 2 by decide), jn_e, if_pos rfl, if_pos rfl]
        unfold fX0_godHas
        rw [show ald 462 (y.2 15) (0 : Int32) = ald 462 (y.2 15) (nI 0) from rfl, ald_n (by omega) (by decide), y4, d1, s5, Option.bind_some, show ald 186624 (z.2 24) (0 : Int32) = ald 186624 (z.2 24) (nI 0) from rfl, ald_n (by omega) (by decide), z2.1.1]
        exact ⟨_, _, _, rfl, rfl, hI2⟩
      · rw [if_neg (show ¬ (1 : Int32) = 2 by decide), jn_e, if_neg (show ¬ (1 : Int32) = 0 by decide), if_neg (show ¬ (1 : Int32) = 0 by decide), if_pos rfl]
        unfold fX0_rivalHas
        rw [show ald 462 (y.2 15) (0 : Int32) = ald 462 (y.2 15) (nI 0) from rfl, ald_n (by omega) (by decide), y4, d2, s5, Option.bind_some, show ald 186624 (z.2 25) (0 : Int32) = ald 186624 (z.2 25) (nI 0) from rfl, ald_n (by omega) (by decide), z2.1.2]
        exact ⟨_, _, _, rfl, rfl, hI2⟩
      · rw [if_pos rfl, if_neg (show ¬ (2 : Int32) = 0 by decide), if_neg (show ¬ (2 : Int32) = 1 by decide), y5, z3]
        exact ⟨_, _, _, rfl, rfl, hI2⟩
    · have m5 : ¬ m.1 10 ≤ 5 := by rw [hR.2.2.2.1, b1]; exact nI_ge (b := vB c) (a := 5) (by omega) (by omega)
      have c5 : ¬ c.1 3 ≤ 5 := by rw [b1]; exact nI_ge (b := vB c) (a := 5) (by omega) (by omega)
      unfold fX6_rival fX7_rival
      rw [if_neg (fun q => w1.mp q hp), if_neg c5, if_neg (fun q => v1.mp q hp), if_neg m5]
      exact ⟨_, _, _, rfl, rfl, h⟩
  · unfold fX6_rival fX7_rival
    rw [if_pos (w1.mpr hp), if_pos (v1.mpr hp)]
    exact ⟨_, _, _, rfl, rfl, h⟩
