/-! meant and bars -/
theorem sets_c {c : SS} (hW : WOK c) (a b : Int32) : (fX6_areSets c a b = 0 ∧ ¬ (∀ i, (bt a i = true ∨ bt b i = true → bt (c.1 5) i = true) ∧ ¬ (bt a i = true ∧ bt b i = true))) ∨ (fX6_areSets c a b = 1 ∧ (∀ i, (bt a i = true ∨ bt b i = true → bt (c.1 5) i = true) ∧ ¬ (bt a i = true ∧ bt b i = true))) := by
  have k1 : ((a ||| b) &&& (c.1 5 ^^^ (-1 : Int32))) = 0 ↔ ∀ i, bt a i = true ∨ bt b i = true → bt (c.1 5) i = true := by
    rw [bits0]
    constructor
    · intro h i hi
      by_cases h32 : i < 32
      · have := h i h32
        rw [b_and, b_or, b_xor, b_m1 i h32] at this
        cases e : bt (c.1 5) i with
        | true => rfl
        | false =>
          rw [e] at this
          rcases hi with q | q <;> rw [q] at this <;> simp at this
      · rw [b_big (by omega), b_big (by omega)] at hi
        rcases hi with q | q <;> cases q
    · intro h i hi
      rw [b_and, b_or, b_xor, b_m1 i hi]
      have := h i
      cases e1 : bt a i with
      | true => rw [this (Or.inl e1)]; simp
      | false =>
        cases e2 : bt b i with
        | true => rw [this (Or.inr e2)]; simp
        | false => rfl
  have k2 : (a &&& b) = 0 ↔ ∀ i, ¬ (bt a i = true ∧ bt b i = true) := by
    rw [bits0]
    constructor
    · rintro h i ⟨q1, q2⟩
      by_cases h32 : i < 32
      · have := h i h32
        rw [b_and, q1, q2] at this
        cases this
      · rw [b_big (by omega)] at q1; cases q1
    · intro h i hi
      rw [b_and]
      have := h i
      cases e1 : bt a i with
      | false => rfl
      | true =>
        cases e2 : bt b i with
        | false => rfl
        | true => exact absurd ⟨e1, e2⟩ this
  unfold fX6_areSets
  by_cases h1 : ((a ||| b) &&& (c.1 5 ^^^ (-1 : Int32))) = 0
  · rw [if_pos h1]
    by_cases h2 : (a &&& b) = 0
    · rw [if_pos h2]
      exact Or.inr ⟨rfl, fun i => ⟨k1.mp h1 i, k2.mp h2 i⟩⟩
    · rw [if_neg h2]
      exact Or.inl ⟨rfl, fun q => h2 (k2.mpr (fun i => (q i).2))⟩
  · rw [if_neg h1]
    exact Or.inl ⟨rfl, fun q => h1 (k1.mpr (fun i => (q i).1))⟩
theorem sets_m {c m : SS} (hW : WOK c) (hR : WR c m) (a b : Int32) : fX7_areSets m a b = fX6_areSets c a b := by
  have w5 := hW.2.2.2.2.1
  have small : ∀ x : Int32, (∀ i, bt x i = true → bt (c.1 5) i = true) → ¬ fX7_in x.toInt64 0 255 = 0 := by
    intro x hx
    obtain ⟨k, k1, k2⟩ := small_of_bits (x := x) (n := 8) (by omega) (fun i hi => by
      cases e : bt x i with
      | false => rfl
      | true => have := hx i e; rw [w5 i hi] at this; cases this)
    rw [lin, ite0, k2, nI_ti (by omega)]
    intro q
    exact q ⟨by show (0 : Int) ≤ _; omega, by show _ ≤ (255 : Int); omega⟩
  rcases sets_c hW a b with ⟨h1, h2⟩ | ⟨h1, h2⟩
  · rw [h1]
    unfold fX7_areSets
    rw [hR.2.2.1]
    unfold fX6_areSets at h1
    split
    · rfl
    · split
      · rfl
      · exact h1
  · rw [h1]
    unfold fX7_areSets
    rw [hR.2.2.1, if_neg (small a (fun i hi => (h2 i).1 (Or.inl hi))), if_neg (small b (fun i hi => (h2 i).1 (Or.inr hi)))]
    exact h1
theorem ok_meant : OK_meant Inv := by
  intro c m i0 i1 ri wa p h
  obtain ⟨hW, hR, hP, hi0, hi1, hX⟩ := id h
  obtain ⟨⟨n1, n2, n3⟩, -, ⟨b1, b2⟩, -⟩ := id hW
  have w5 := hW.2.2.2.2.1
  unfold fX6_meant fX7_meant
  simp only [jn_e]
  rw [stop_m hW hR, sets_m hW hR]
  have body : ¬ fX6_isStopOrAll c p = 0 → (p = -1 ∨ ∃ k, k < vn c ∧ p = nI k ∧ ¬ p = -1) → ∃ (r : Int32) (c2 m2 : SS), (if fX6_areSets c ri wa = 0 then some (-2, c) else Option.bind (fX6_fewestBreaths c ri wa) (fun q3 => if p = -1 then some (q3.1, q3.2) else if q3.1 = -6 then some (q3.1, q3.2) else Option.bind (fX2_breathsAt q3.2 p) (fun q6 => some (q6, q3.2)))) = some (r, c2) ∧ (if fX6_areSets c ri wa = 0 then some (-2, m) else Option.bind (fX7_fewestFor m ri wa) (fun q2 => if q2.1 < 0 then some (q2.1, q2.2) else if p = -1 then some (q2.1, q2.2) else ald 6 (q2.2.2 21) p (fun v5 => some (v5, q2.2)))) = some (r, m2) ∧ Inv c2 m2 i0 i1 := by
    intro _ hp
    rcases sets_c hW ri wa with ⟨s1, -⟩ | ⟨s1, s2⟩
    · rw [if_pos s1, if_pos s1]
      exact ⟨_, _, _, rfl, rfl, h⟩
    · have hb : ∀ x i, (x = ri ∨ x = wa) → 8 ≤ i → bt x i = false := by
        intro x i hx hi
        cases e : bt x i with
        | false => rfl
        | true =>
          have := (s2 i).1 (hx.elim (fun z => Or.inl (z ▸ e)) (fun z => Or.inr (z ▸ e)))
          rw [w5 i hi] at this; cases this
      obtain ⟨r, y, z, y1, z1, y2, z2, hr⟩ := few_pair hW hR (PC.rf c) (FM.rf m) (fun i hi => hb ri i (Or.inl rfl) hi) (fun i hi => hb wa i (Or.inr rfl) hi) (fun q hq hbq => by
        obtain ⟨⟨g1, g2, g3⟩, -⟩ := hW.2.2.2.2.2.2.2.2 q hq
        exact g3 ((s2 q).1 (Or.inl hbq)))
      have hI2 := Inv_of h y2.cm (FM_ms z2)
      rw [if_neg (by rw [s1]; decide), if_neg (by rw [s1]; decide), y1, z1, Option.bind_some, Option.bind_some]
      rcases hr with rfl | ⟨k, k1, rfl, k3, k4⟩
      · rw [if_pos (show (-6 : Int32) < 0 by decide), if_pos (show (-6 : Int32) = -6 from rfl), ite_self]
        exact ⟨_, _, _, rfl, rfl, hI2⟩
      · rw [if_neg (show ¬ nI k < (0 : Int32) from nI_pos (by omega))]
        rcases hp with hp | ⟨j, j1, rfl, j3⟩
        · rw [if_pos hp, if_pos hp]
          exact ⟨_, _, _, rfl, rfl, hI2⟩
        · have h6 : ¬ nI k = -6 := by
            intro q
            have := congrArg Int32.toInt q
            rw [nI_ti (by omega), show (-6 : Int32).toInt = -6 from rfl] at this
            omega
          rw [if_neg j3, if_neg j3, if_neg h6, breaths_c n3 (by omega) j1 k3, Option.bind_some, ald_n (by omega) (by decide), k4 j (by omega)]
          exact ⟨_, _, _, rfl, rfl, hI2⟩
  by_cases h1 : p = -1
  · have hs : ¬ fX6_isStopOrAll c p = 0 := fun q => (stopAll_c hW p).mp q (Or.inl h1)
    obtain ⟨r, c2, m2, e1, e2, e3⟩ := body hs (Or.inl h1)
    rw [if_neg hs, if_pos h1, e1]
    exact ⟨_, _, _, rfl, e2, e3⟩
  · by_cases h2 : 0 ≤ p.toInt ∧ p.toInt < vn c
    · have hs : ¬ fX6_isStopOrAll c p = 0 := fun q => (stopAll_c hW p).mp q (Or.inr h2)
      obtain ⟨k, k1, k2, k3⟩ := nI_back h2.1
      obtain ⟨r, c2, m2, e1, e2, e3⟩ := body hs (Or.inr ⟨k, by omega, k2, h1⟩)
      rw [if_neg hs, if_neg h1, if_pos h2, if_neg (show ¬ (1 : Int32) = 0 by decide), e1]
      exact ⟨_, _, _, rfl, e2, e3⟩
    · rw [if_pos ((stopAll_c hW p).mpr (fun q => q.elim h1 h2)), if_neg h1, if_neg h2, if_pos rfl]
      exact ⟨_, _, _, rfl, rfl, h⟩
theorem bit_off (x : Int32) {p i : Nat} (hp : p < 32) (hi : i < 32) : bt (x &&& (((1 : Int32) <<< (nI p &&& 31)) ^^^ (-1 : Int32))) i = (bt x i && decide (¬ i = p)) := by
  rw [b_and, b_xor, b_one hp hi, b_m1 i hi]
  by_cases e : i = p
  · simp [e]
  · simp [e]
theorem bit_has (x : Int32) {p : Nat} (hp : p < 32) : (x &&& ((1 : Int32) <<< (nI p &&& 31))) = 0 ↔ bt x p = false := by
  rw [bits0]
  constructor
  · intro h
    have := h p hp
    rw [b_and, b_one hp hp] at this
    simpa using this
  · intro h i hi
    rw [b_and, b_one hp hi]
    by_cases e : i = p
    · rw [e, h]; rfl
    · simp [e]
theorem bars_l {c m : SS} (hW : WOK c) (hR : WR c m) {ri wa : Int32} (h1 : ∀ i, 8 ≤ i → bt ri i = false) (h2 : ∀ i, 8 ≤ i → bt wa i = false) (hs : SB c ri) : ∀ (j i n : Nat) (y z : SS), i + j = 8 → j < n → PC c y → FM m z → ∃ r y2 z2, fX6_bars_L28 ri wa n (nI i) y = some (r, y2) ∧ fX7_bars_L26 ri wa n (nI i) z = some (r, z2) ∧ PC c y2 ∧ FM m z2 := by
  intro j
  induction j with
  | zero =>
    intro i n y z e1 e2 hy hz
    obtain ⟨n, rfl⟩ : ∃ k, n = k + 1 := ⟨n - 1, by omega⟩
    obtain rfl : i = 8 := by omega
    rw [fX6_bars_L28, fX7_bars_L26, if_pos (show (8 : Int32) ≤ nI 8 by decide), if_pos (show (8 : Int32) ≤ nI 8 by decide)]
    exact ⟨_, _, _, rfl, rfl, hy, hz⟩
  | succ j ih =>
    intro i n y z e1 e2 hy hz
    obtain ⟨n, rfl⟩ : ∃ k, n = k + 1 := ⟨n - 1, by omega⟩
    have hi : i < 8 := by omega
    rw [fX6_bars_L28, fX7_bars_L26, if_neg (n8 hi), if_neg (n8 hi), inc_n]
    simp only [jn_e]
    cases hb : bt (ri ||| wa) i with
    | false =>
      rw [if_pos ((bit_has _ (by omega)).mpr hb), if_neg (fun q => by have := (tb1 (ri ||| wa) (show i < 32 by omega)).mp q; rw [hb] at this; cases this), if_pos trivial]
      exact ih (i + 1) n y z (by omega) (by omega) hy hz
    | true =>
      rw [if_neg (fun q => by have := (bit_has (ri ||| wa) (show i < 32 by omega)).mp q; rw [hb] at this; cases this), if_pos ((tb1 _ (by omega)).mpr hb), if_neg (show ¬ (1 : Int32) = 0 by decide)]
      have big : ∀ x : Int32, (∀ i, 8 ≤ i → bt x i = false) → ∀ q, 8 ≤ q → bt (x &&& (((1 : Int32) <<< (nI i &&& 31)) ^^^ (-1 : Int32))) q = false := by
        intro x hx q hq
        by_cases h32 : q < 32
        · rw [bit_off _ (by omega) h32, hx q hq]; rfl
        · exact b_big (by omega)
      obtain ⟨r, y2, z2, y3, z3, y4, z4, hr⟩ := few_pair hW hR hy hz (big ri h1) (big wa h2) (fun q hq hbq => by
        rw [bit_off _ (by omega) (by omega), Bool.and_eq_true] at hbq
        exact hs q hq hbq.1)
      rw [y3, z3, Option.bind_some, Option.bind_some]
      rcases hr with rfl | ⟨k, k1, rfl, -, -⟩
      · rw [if_pos (show (-6 : Int32) < 0 by decide), if_pos (show (-6 : Int32) = -6 from rfl)]
        exact ih (i + 1) n y2 z2 (by omega) (by omega) y4 z4
      · have h6 : ¬ nI k = -6 := by
          intro q
          have := congrArg Int32.toInt q
          rw [nI_ti (by omega), show (-6 : Int32).toInt = -6 from rfl] at this
          omega
        rw [if_neg (show ¬ nI k < (0 : Int32) from nI_pos (by omega)), if_neg h6]
        exact ⟨_, _, _, rfl, rfl, y4, z4⟩
theorem ok_bars : OK_bars Inv := by
  intro c m i0 i1 ri wa h
  obtain ⟨hW, hR, hP, hi0, hi1, hX⟩ := id h
  have w5 := hW.2.2.2.2.1
  unfold fX6_bars fX7_bars
  rw [sets_m hW hR]
  rcases sets_c hW ri wa with ⟨s1, -⟩ | ⟨s1, s2⟩
  · rw [if_pos s1, if_pos s1]
    exact ⟨_, _, _, rfl, rfl, h⟩
  · have hb : ∀ x i, (x = ri ∨ x = wa) → 8 ≤ i → bt x i = false := by
      intro x i hx hi
      cases e : bt x i with
      | false => rfl
      | true =>
        have := (s2 i).1 (hx.elim (fun z => Or.inl (z ▸ e)) (fun z => Or.inr (z ▸ e)))
        rw [w5 i hi] at this; cases this
    have hs : SB c ri := fun q hq hbq => by
      obtain ⟨⟨g1, g2, g3⟩, -⟩ := hW.2.2.2.2.2.2.2.2 q hq
      exact g3 ((s2 q).1 (Or.inl hbq))
    obtain ⟨r, y, z, y1, z1, y2, z2, hr⟩ := few_pair hW hR (PC.rf c) (FM.rf m) (fun i hi => hb ri i (Or.inl rfl) hi) (fun i hi => hb wa i (Or.inr rfl) hi) hs
    rw [if_neg (by rw [s1]; decide), if_neg (by rw [s1]; decide), y1, z1, Option.bind_some, Option.bind_some]
    rcases hr with rfl | ⟨k, k1, rfl, -, -⟩
    · rw [if_pos (show (-6 : Int32) < 0 by decide), if_pos (show (-6 : Int32) = -6 from rfl)]
      obtain ⟨r, y3, z3, a1, a2, a3, a4⟩ := bars_l hW hR (fun i hi => hb ri i (Or.inl rfl) hi) (fun i hi => hb wa i (Or.inr rfl) hi) hs 8 0 fu y z (by omega) (fu_big (by omega)) y2 z2
      exact ⟨r, y3, z3, a1, a2, Inv_of h a3.cm (FM_ms a4)⟩
    · have h6 : ¬ nI k = -6 := by
        intro q
        have := congrArg Int32.toInt q
        rw [nI_ti (by omega), show (-6 : Int32).toInt = -6 from rfl] at this
        omega
      rw [if_neg (show ¬ nI k < (0 : Int32) from nI_pos (by omega)), if_neg h6]
      exact ⟨_, _, _, rfl, rfl, Inv_of h y2.cm (FM_ms z2)⟩
