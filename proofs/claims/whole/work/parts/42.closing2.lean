/-- the reference's state in closing's loop: all but the closed ones and the rows for holds -/
def ClM (c m z : SS) : Prop := (∀ k, k ≠ 2 → z.1 k = m.1 k) ∧ (∀ j, j ≠ 17 → j ≠ 18 → z.2 j = m.2 j) ∧ ∀ j, j < 6 → z.2 17 j = 0
theorem clm_turn {c m z : SS} (hW : WOK c) (hR : WR c m) (h : ClM c m z) (sh : Int32) : ∃ z2, fX7_ridersNow (sF z 2 sh) = some (bs (rdB c (bt sh) (fun _ => 0) 0), z2) ∧ ClM c m z2 ∧ ∀ r, fX7_goodOf z2 r 255 = some (gdS c (bt (c.1 5)) (bt r)) := by
  obtain ⟨h1, h2, h3⟩ := h
  have n3 := hW.1.2.2
  have e : ∀ k, k ≠ 2 → (sF z 2 sh).1 k = m.1 k := fun k hk => by rw [sF_1, if_neg hk]; exact h1 k hk
  have hmw : MW c (sF z 2 sh) sh (fun _ => 0) := by
    refine ⟨by rw [e 0 (by omega)]; exact hR.1, rfl, by rw [e 3 (by omega)]; exact hR.2.2.1, fun j hj => ?_, fun p hp => ?_, fun j hj => ⟨?_, Nat.zero_le _⟩⟩
    · rw [sF_2, h2 1 (by omega) (by omega)]; exact hR.2.2.2.2.2.2.1 j hj
    · unfold pR
      rw [sF_2, h2 4 (by omega) (by omega), h2 5 (by omega) (by omega), h2 6 (by omega) (by omega), h2 7 (by omega) (by omega), h2 8 (by omega) (by omega), h2 9 (by omega) (by omega)]
      exact hR.2.2.2.2.2.2.2.1 p hp
    · rw [sF_2, h3 j (by omega)]; rfl
  have hn := now_m hW hmw
  rw [dly_0] at hn
  obtain ⟨f1, f2, f3⟩ := flv_f c sh (fun _ => 0) (sF z 2 sh)
  have hl := hmw.l2 hW
  refine ⟨_, hn, ⟨fun k hk => by rw [f1]; exact e k hk, fun j a b => by rw [f2 j b, sF_2]; exact h2 j a b, fun j hj => by rw [f2 17 (by omega), sF_2]; exact h3 j hj⟩, fun r => ?_⟩
  rw [good_ms hl.2.1 hl.2.2.1, gd_255]
theorem closing_m1 {c m z : SS} (hW : WOK c) (hR : WR c m) (hz : ClM c m z) (k a2 : Int32) (K : Int32 → Int32 → SS → Option (Int32 × SS)) : ∃ mo fo z2, CR c k (2 ^ vn c) mo fo ∧ ClM c m z2 ∧ fX7_closing_L44 K k a2 (c.1 2) fu (-6) 0 0 z = K fo mo z2 := by
  obtain ⟨⟨n1, n2, n3⟩, -⟩ := id hW
  have hp64 : 2 ^ vn c ≤ 64 := Nat.pow_le_pow_right (n := 2) (by decide) n3
  have hh := for_inv (fun n i (s : Int32 × Int32 × SS) => fX7_closing_L44 K k a2 (c.1 2) n s.2.1 s.1 (nI i) s.2.2) (2 ^ vn c) (fun s => K s.2.1 s.1 s.2.2) (fun i s => CR c k i s.1 s.2.1 ∧ ClM c m s.2.2) ?_ ?_ fu (0, -6, z) (fu_big (by omega)) ⟨CR.z c k, hz⟩
  · obtain ⟨⟨mo, fo, z2⟩, ⟨h1, h2⟩, h3⟩ := hh
    exact ⟨mo, fo, z2, h1, h2, h3⟩
  · intro n i ⟨mo, fo, s⟩ hi ⟨g1, g2⟩
    show ∃ s2 : Int32 × Int32 × SS, _ ∧ fX7_closing_L44 K k a2 (c.1 2) (n + 1) fo mo (nI i) s = fX7_closing_L44 K k a2 (c.1 2) n s2.2.1 s2.1 (nI (i + 1)) s2.2.2
    have g1' : CR c k i mo fo := g1
    have g2' : ClM c m s := g2
    have hfo : (fo < 0) ↔ fo = -6 := by
      obtain ⟨-, -, -, q⟩ := g1'
      rcases q with q | ⟨j, hj, q⟩
      · rw [q]; decide
      · rw [q]
        constructor
        · intro z; exact absurd z (nI_pos (by omega))
        · intro z
          have := congrArg Int32.toInt z
          rw [nI_ti (by omega), show (-6 : Int32).toInt = -6 from rfl] at this
          omega
    have ho : fX7_ones (nI i) = some (fJ6_bitCount_0f7a4 (nI i)) := ones_bc ⟨i, by omega, rfl⟩
    rw [fX7_closing_L44, if_neg (by rw [g2'.1 0 (by omega), hR.1, n1, pow_n n3]; exact nI_ge hi (by omega)), jn_e, inc_n]
    by_cases c2 : (nI i &&& c.1 2) = 0
    · rw [if_pos c2, ho, Option.bind_some]
      by_cases c1 : fJ6_bitCount_0f7a4 (nI i) = k
      · rw [if_pos c1]
        obtain ⟨z2, t1, t2, t3⟩ := clm_turn hW hR g2' (c.1 2 ||| nI i)
        rw [t1, Option.bind_some, t3, Option.bind_some, gd_bs]
        simp only [jn_e]
        by_cases c3 : fo = -6
        · rw [if_pos (hfo.mpr c3), if_neg (show ¬ (1 : Int32) = 0 by decide), if_neg (show ¬ (1 : Int32) = 0 by decide)]
          exact ⟨(cgv c i, nI i, z2), ⟨g1'.up ⟨c1, c2⟩ (Or.inl c3), t2⟩, rfl⟩
        · rw [if_neg (fun q => c3 (hfo.mp q))]
          by_cases c4 : cgv c i ≤ mo
          · rw [if_pos (show gdS c (bt (c.1 5)) (rdB c (bt (c.1 2 ||| nI i)) (fun _ => 0) 0) ≤ mo from c4), if_pos trivial, if_pos trivial]
            exact ⟨(mo, fo, z2), ⟨g1'.st ⟨c1, c2⟩ (fun q => by
              rcases q with q | q
              · exact c3 q
              · exact absurd (i32_le.mp c4) (by have := i32_lt.mp q; omega)), t2⟩, rfl⟩
          · rw [if_neg (show ¬ gdS c (bt (c.1 5)) (rdB c (bt (c.1 2 ||| nI i)) (fun _ => 0) 0) ≤ mo from c4), if_neg (show ¬ (1 : Int32) = 0 by decide), if_neg (show ¬ (1 : Int32) = 0 by decide)]
            exact ⟨(cgv c i, nI i, z2), ⟨g1'.up ⟨c1, c2⟩ (Or.inr (i32_lt.mpr (by
              have : ¬ (cgv c i).toInt ≤ mo.toInt := fun q => c4 (i32_le.mpr q)
              omega))), t2⟩, rfl⟩
      · rw [if_neg c1]
        exact ⟨(mo, fo, s), ⟨g1'.no (fun q => c1 q.1), g2'⟩, rfl⟩
    · rw [if_neg c2]
      exact ⟨(mo, fo, s), ⟨g1'.no (fun q => c2 q.2), g2'⟩, rfl⟩
  · intro n ⟨mo, fo, s⟩ ⟨g1, g2⟩
    show fX7_closing_L44 K k a2 (c.1 2) (n + 1) fo mo (nI (2 ^ vn c)) s = _
    have g2' : ClM c m s := g2
    rw [fX7_closing_L44, if_pos (by rw [g2'.1 0 (by omega), hR.1, n1, pow_n n3]; exact Int32.le_refl _)]
theorem closing_c2 {c : SS} {k w : Int32} (h1 : ¬ fX6_within k 0 6 = 0) (h2 : ¬ fX6_within w 0 1 = 0) : fX6_closing c k w = fX6_closing_L35 (fun x15 x16 c17 => if x16 = -6 then some (x16, c17) else if w = 1 then some (x16, c17) else some ((x15 + 1000), c17)) k w fu 0 (-6) 0 (clD c) := by
  unfold fX6_closing
  rw [if_neg h1, if_neg h2, clearD_c, Option.bind_some]
theorem closing_m2 {m : SS} {k w : Int32} (h1 : ¬ fX7_in k.toInt64 0 6 = 0) (h2 : ¬ fX7_in w.toInt64 0 1 = 0) : fX7_closing m k w = fX7_closing_L44 (fun x20 x21 c22 => if x20 < 0 then some (x20, (sF c22 2 (m.1 2))) else if w = 1 then some (x20, (sF c22 2 (m.1 2))) else some ((x21 + 1000), (sF c22 2 (m.1 2)))) k w (m.1 2) fu (-6) 0 0 (noH m) := by
  unfold fX7_closing
  rw [if_neg h1, if_neg h2, noHold_m, Option.bind_some]
theorem ok_closing : OK_closing Inv := by
  intro c m i0 i1 k w h
  obtain ⟨hW, hR, hP, hi0, hi1, hX⟩ := id h
  have w1 : (fX6_within k 0 6 = 0) ↔ ¬ (0 ≤ k.toInt ∧ k.toInt ≤ 6) := by rw [win, ite0]; rfl
  have w2 : (fX7_in k.toInt64 0 6 = 0) ↔ ¬ (0 ≤ k.toInt ∧ k.toInt ≤ 6) := by rw [lin, ite0]; rfl
  have w3 : (fX6_within w 0 1 = 0) ↔ ¬ (0 ≤ w.toInt ∧ w.toInt ≤ 1) := by rw [win, ite0]; rfl
  have w4 : (fX7_in w.toInt64 0 1 = 0) ↔ ¬ (0 ≤ w.toInt ∧ w.toInt ≤ 1) := by rw [lin, ite0]; rfl
  by_cases hk : 0 ≤ k.toInt ∧ k.toInt ≤ 6
  · by_cases hw : 0 ≤ w.toInt ∧ w.toInt ≤ 1
    · rw [closing_c2 (fun q => w1.mp q hk) (fun q => w3.mp q hw), closing_m2 (fun q => w2.mp q hk) (fun q => w4.mp q hw), hR.2.1]
      obtain ⟨d1, d2, d3⟩ := clD_f c
      obtain ⟨f1, f2, f3⟩ := noH_f m
      obtain ⟨mo, fo, z2, a1, a2, a3⟩ := closing_c1 hW (z := clD c) ⟨d1, fun j _ hj => d2 j hj, d3⟩ k w (fun x15 x16 c17 => if x16 = -6 then some (x16, c17) else if w = 1 then some (x16, c17) else some ((x15 + 1000), c17))
      obtain ⟨mo2, fo2, y2, b1, b2, b3⟩ := closing_m1 hW hR (z := noH m) ⟨fun k _ => by rw [f1], fun j hj _ => f2 j hj, f3⟩ k w (fun x20 x21 c22 => if x20 < 0 then some (x20, (sF c22 2 (c.1 2))) else if w = 1 then some (x20, (sF c22 2 (c.1 2))) else some ((x21 + 1000), (sF c22 2 (c.1 2))))
      obtain ⟨e1, e2⟩ := a1.u b1
      subst e1; subst e2
      rw [a3, b3]
      have n3 := hW.1.2.2
      have hp64 : 2 ^ vn c ≤ 64 := Nat.pow_le_pow_right (n := 2) (by decide) n3
      have hcm : CM c z2 := ⟨fun q _ => by rw [a2.1], fun q hq => a2.2.1 q (by omega) (by omega), fun hx x hx6 => ⟨by rw [a2.2.2 x hx6]; decide, by rw [a2.2.1 17 (by omega) (by omega)]; exact (hx x hx6).2⟩⟩
      have hms : MS m (sF y2 2 (c.1 2)) := MS_mk (fun q hq => by
        rw [sF_1]
        by_cases e : q = 2
        · rw [if_pos e, e]; exact hR.2.1.symm
        · rw [if_neg e]; exact b2.1 q e) (fun q hq => by rw [sF_2]; exact b2.2.1 q (by omega) (by omega))
      have hI2 := Inv_of h hcm hms
      obtain ⟨-, -, -, q⟩ := a1
      rcases q with q | ⟨j, hj, q⟩
      · subst q
        exact ⟨_, _, _, if_pos rfl, if_pos (by decide), hI2⟩
      · subst q
        have h6 : ¬ nI j = -6 := by
          intro z
          have := congrArg Int32.toInt z
          rw [nI_ti (by omega), show (-6 : Int32).toInt = -6 from rfl] at this
          omega
        rw [if_neg h6, if_neg (nI_pos (by omega))]
        by_cases hw1 : w = 1
        · rw [if_pos hw1, if_pos hw1]; exact ⟨_, _, _, rfl, rfl, hI2⟩
        · rw [if_neg hw1, if_neg hw1]; exact ⟨_, _, _, rfl, rfl, hI2⟩
    · unfold fX6_closing fX7_closing
      rw [if_neg (fun q => w1.mp q hk), if_pos (w3.mpr hw), if_neg (fun q => w2.mp q hk), if_pos (w4.mpr hw)]
      exact ⟨_, _, _, rfl, rfl, h⟩
  · unfold fX6_closing fX7_closing
    rw [if_pos (w1.mpr hk), if_pos (w2.mpr hk)]
    exact ⟨_, _, _, rfl, rfl, h⟩
