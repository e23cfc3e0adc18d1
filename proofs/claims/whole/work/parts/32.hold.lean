/-! the hold on the pad -/
theorem for_inv {σ R : Type} (L : Nat → Nat → σ → R) (N : Nat) (K : σ → R) (Iv : Nat → σ → Prop)
    (hs : ∀ n i s, i < N → Iv i s → ∃ s2, Iv (i + 1) s2 ∧ L (n + 1) i s = L n (i + 1) s2) (hK : ∀ n s, Iv N s → L (n + 1) N s = K s) :
    ∀ (n : Nat) (s : σ), N < n → Iv 0 s → ∃ s2, Iv N s2 ∧ L n 0 s = K s2 := by
  have key : ∀ (j i n : Nat) (s : σ), i + j = N → j < n → Iv i s → ∃ s2, Iv N s2 ∧ L n i s = K s2 := by
    intro j
    induction j with
    | zero =>
      intro i n s h1 h2 h3
      obtain rfl : i = N := by omega
      obtain ⟨n, rfl⟩ : ∃ k, n = k + 1 := ⟨n - 1, by omega⟩
      exact ⟨s, h3, hK n s h3⟩
    | succ j ih =>
      intro i n s h1 h2 h3
      obtain ⟨n, rfl⟩ : ∃ k, n = k + 1 := ⟨n - 1, by omega⟩
      obtain ⟨s2, g1, g2⟩ := hs n i s (by omega) h3
      rw [g2]
      exact ih (i + 1) n s2 (by omega) (by omega) g1
  intro n s hn h0
  exact key N 0 n s (by omega) hn h0
def hd (c : SS) (s : Nat) : Nat := if bt (c.1 2) s then 0 else (c.2 0 s - 48).toNatClampNeg
/-- the pad holds a HOLD without a fault -/
def HF (c : SS) : Prop := vK c = vn c ∧ ∀ j, j < vn c → dg (c.2 0 j)
theorem hd_le {c : SS} (h : HF c) {s : Nat} (hs : s < vn c) : hd c s ≤ 9 ∧ (bt (c.1 2) s = false → c.2 0 s - 48 = nI (hd c s)) := by
  obtain ⟨d, d1, d2⟩ := dg_n (h.2 s hs)
  unfold hd
  cases hb : bt (c.1 2) s with
  | true => simp
  | false =>
    simp only [Bool.false_eq_true, if_false]
    rw [d2, nI_clamp (by omega)]
    exact ⟨d1, fun _ => rfl⟩
theorem hd_dl (c : SS) : ∀ s, dlS (bt (c.1 2)) (hd c) s = dlS (fun _ => false) (hd c) s := by
  intro s
  induction s with
  | zero => rfl
  | succ s ih =>
    show dlS _ _ s + _ = dlS _ _ s + _
    rw [ih]
    cases hb : bt (c.1 2) s with
    | true => simp [hd, hb]
    | false => rfl
def rdh (c : SS) : SS := lp (vn c) (fun i s => sA s 19 (0 + i) (nI (hd c i))) c
theorem rdh_f (c : SS) : (rdh c).1 = c.1 ∧ (∀ j, j ≠ 19 → (rdh c).2 j = c.2 j) ∧ ∀ s, s < vn c → (rdh c).2 19 s = nI (hd c s) := by
  obtain ⟨h1, h2, h3⟩ := lpA 19 0 (vn c) (fun i => nI (hd c i)) c
  refine ⟨h1, h2, fun p hp => ?_⟩
  have := h3 p
  rw [if_pos (by omega)] at this
  exact this
theorem fault1 {c m : SS} (hW : WOK c) (hP : PR c m) : ∃ r, fX1_faultOf c (c.1 1) (c.1 1) = some r ∧ fX7_faultOfDigits m (c.1 1) (c.1 1) = some r ∧ ((HF c ∧ r = -6) ∨ (¬ HF c ∧ ∃ i, i ≤ 20 ∧ r = nI i)) := by
  obtain ⟨⟨n1, n2, n3⟩, -⟩ := hW
  obtain ⟨r, e1, e2, e3⟩ := fault_s hP (vn c) (vn c) (by omega) (by omega)
  rw [n1]
  refine ⟨r, e1, e2, ?_⟩
  have h6 : ∀ i : Nat, i ≤ 20 → ¬ nI i = -6 := by
    intro i hi q
    have := congrArg Int32.toInt q
    rw [nI_ti (by omega), show (-6 : Int32).toInt = -6 from rfl] at this
    omega
  by_cases hf : HF c
  · left
    refine ⟨hf, ?_⟩
    rcases e3 with ⟨e, -⟩ | ⟨i, hi, rfl⟩
    · exact e
    · -- a fault can't be
      exfalso
      have hk20 := hP.2.1.2
      have hc := fault_c hP (fun _ => if nI (vn c) ≤ c.1 0 then some (-6) else some (c.1 0)) (nI (vn c)) (vn c) (by omega) fu (fu_big (by omega))
      rcases hc with ⟨j, j1, j2, j3, j4⟩ | ⟨g1, g2⟩
      · rcases j2 with j2 | j2
        · have := hf.1; omega
        · exact j2 (hf.2 j (by have := hf.1; omega))
      · have e1' : fX1_faultOf c (nI (vn c)) (nI (vn c)) = some (-6) := by
          show fX1_faultOf_L2 _ c _ _ fu (nI 0) = _
          rw [g2, hP.2.1.1, if_pos (nI_le (by have := hf.1; omega) (by have := hf.1; omega))]
        rw [e1] at e1'
        exact h6 i hi (Option.some.inj e1')
  · right
    refine ⟨hf, ?_⟩
    rcases e3 with ⟨-, a1, a2, a3⟩ | h
    · exact absurd ⟨by omega, fun j hj => a3 j (by omega)⟩ hf
    · exact h
theorem readHold_c {c m : SS} (hW : WOK c) (hP : PR c m) : (HF c ∧ fX6_readHold c = some (1, rdh c)) ∨ (¬ HF c ∧ fX6_readHold c = some (0, c)) := by
  obtain ⟨⟨n1, n2, n3⟩, -⟩ := id hW
  obtain ⟨r, e1, e2, e3⟩ := fault1 hW hP
  unfold fX6_readHold
  rw [e1]
  simp only [Option.bind_some]
  rcases e3 with ⟨hf, rfl⟩ | ⟨hf, i, hi, rfl⟩
  · left
    refine ⟨hf, ?_⟩
    rw [if_pos rfl]
    unfold rdh
    refine (for_up (fun n i s => fX6_readHold_L30 n (nI i) s) (vn c) (fun i s => sA s 19 (0 + i) (nI (hd c i))) (fun s => some (1, s)) (fun _ z => z.1 = c.1 ∧ ∀ j, j ≠ 19 → z.2 j = c.2 j) ?_ ?_ ?_ fu c (fu_big (by omega)) ⟨rfl, fun _ _ => rfl⟩).1
    · intro n i z hi ⟨z1, z2⟩
      show fX6_readHold_L30 (n + 1) (nI i) z = fX6_readHold_L30 n (nI (i + 1)) _
      obtain ⟨hd1, hd2⟩ := hd_le hf hi
      rw [fX6_readHold_L30, if_neg (by rw [z1, n1]; exact nI_ge hi (by omega))]
      simp only [jn_e, ckb_n (show i < 6 by omega) (show 6 < 2 ^ 31 by decide), inc_n, nI_clamp (show i < 2 ^ 31 by omega), Nat.zero_add]
      cases hb : bt (c.1 2) i with
      | false =>
        rw [if_pos ((closed_c z (by omega)).mpr (by rw [z1]; exact hb))]
        have ed : fX1_digit z (nI i) = some (nI (hd c i)) := by
          unfold fX1_digit
          rw [if_neg (nI_pos (by omega)), if_neg (by rw [z1, hP.2.1.1]; exact nI_ge (by have := hf.1; omega) (by have := hf.1; omega)), ald_n (by omega) (by decide), z2 0 (by omega), hd2 hb]
        rw [ed]
        rfl
      | true =>
        rw [if_neg (fun q => by have := (closed_c z (by omega)).mp q; rw [z1, hb] at this; cases this)]
        have : hd c i = 0 := by unfold hd; rw [hb]; rfl
        rw [this]
        rfl
    · intro n z ⟨z1, z2⟩
      show fX6_readHold_L30 (n + 1) (nI (vn c)) z = some (1, z)
      rw [fX6_readHold_L30, if_pos (by rw [z1, n1]; exact Int32.le_refl _)]
    · intro i z hi ⟨z1, z2⟩
      exact ⟨by rw [sA_1]; exact z1, fun j hj => by rw [sA_2, if_neg hj]; exact z2 j hj⟩
  · right
    refine ⟨hf, ?_⟩
    rw [if_neg]
    intro q
    have := congrArg Int32.toInt q
    rw [nI_ti (by omega), show (-6 : Int32).toInt = -6 from rfl] at this
    omega
theorem overEach_c {c z : SS} (hW : WOK c) (hf : HF c) (z1 : z.1 = c.1) (z19 : ∀ s, s < vn c → z.2 19 s = nI (hd c s)) : (∃ i, i < vn c ∧ vE c < hd c i ∧ (∀ j, j < i → ¬ vE c < hd c j) ∧ fX6_stopOverEach z = some (nI i)) ∨ ((∀ j, j < vn c → ¬ vE c < hd c j) ∧ fX6_stopOverEach z = some (-6)) := by
  obtain ⟨⟨n1, n2, n3⟩, -, -, ⟨e1, e2⟩, -⟩ := id hW
  refine for_find (fun n i => fX6_stopOverEach_L2 z n (nI i)) (vn c) (fun i => vE c < hd c i) (some (-6)) (fun i => some (nI i)) ?_ ?_ ?_ fu (fu_big (by omega))
  · intro n
    show fX6_stopOverEach_L2 z (n + 1) (nI (vn c)) = _
    rw [fX6_stopOverEach_L2, if_pos (by rw [z1, n1]; exact Int32.le_refl _)]
  · intro n i hi hb
    show fX6_stopOverEach_L2 z (n + 1) (nI i) = _
    have := (hd_le hf hi).1
    rw [fX6_stopOverEach_L2, if_neg (by rw [z1, n1]; exact nI_ge hi (by omega)), ald_n (by omega) (by decide), z19 i hi, if_neg (by rw [z1, e1]; exact nI_ge hb (by omega))]
  · intro n i hi hb
    show fX6_stopOverEach_L2 z (n + 1) (nI i) = fX6_stopOverEach_L2 z n (nI (i + 1))
    have := (hd_le hf hi).1
    rw [fX6_stopOverEach_L2, if_neg (by rw [z1, n1]; exact nI_ge hi (by omega)), ald_n (by omega) (by decide), z19 i hi, if_pos (by rw [z1, e1]; exact nI_le (by omega) (by omega)), inc_n]
theorem hdS_le {c : SS} (hf : HF c) : ∀ s, s ≤ vn c → dlS (fun _ => false) (hd c) s ≤ 9 * s := dlS_le (fun j hj => (hd_le hf hj).1)
theorem overBr_c {c z : SS} (hW : WOK c) (hf : HF c) (z1 : z.1 = c.1) (z19 : ∀ s, s < vn c → z.2 19 s = nI (hd c s)) : (∃ i, i < vn c ∧ vB c < dlS (fun _ => false) (hd c) (i + 1) ∧ (∀ j, j < i → ¬ vB c < dlS (fun _ => false) (hd c) (j + 1)) ∧ fX6_stopOverBreaths z = some (nI i)) ∨ ((∀ j, j < vn c → ¬ vB c < dlS (fun _ => false) (hd c) (j + 1)) ∧ fX6_stopOverBreaths z = some (-6)) := by
  obtain ⟨⟨n1, n2, n3⟩, -, ⟨e1, e2⟩, -⟩ := id hW
  have hS := hdS_le hf
  refine for_find (fun n i => fX6_stopOverBreaths_L4 z n (nI (dlS (fun _ => false) (hd c) i)) (nI i)) (vn c) (fun i => vB c < dlS (fun _ => false) (hd c) (i + 1)) (some (-6)) (fun i => some (nI i)) ?_ ?_ ?_ fu (fu_big (by omega))
  · intro n
    show fX6_stopOverBreaths_L4 z (n + 1) _ (nI (vn c)) = _
    rw [fX6_stopOverBreaths_L4, if_pos (by rw [z1, n1]; exact Int32.le_refl _)]
  · intro n i hi hb
    show fX6_stopOverBreaths_L4 z (n + 1) _ (nI i) = _
    have h9 : dlS (fun _ => false) (hd c) i + hd c i ≤ 9 * (i + 1) := hS (i + 1) (by omega)
    have hb2 : vB c < dlS (fun _ => false) (hd c) i + hd c i := hb
    rw [fX6_stopOverBreaths_L4, if_neg (by rw [z1, n1]; exact nI_ge hi (by omega)), ald_n (by omega) (by decide), z19 i hi, nI_add, if_neg (by rw [z1, e1]; exact nI_ge hb2 (by omega))]
  · intro n i hi hb
    show fX6_stopOverBreaths_L4 z (n + 1) _ (nI i) = fX6_stopOverBreaths_L4 z n _ (nI (i + 1))
    have h9 := hS (i + 1) (by omega)
    have hb2 : dlS (fun _ => false) (hd c) i + hd c i ≤ vB c := Nat.le_of_not_lt hb
    rw [fX6_stopOverBreaths_L4, if_neg (by rw [z1, n1]; exact nI_ge hi (by omega)), ald_n (by omega) (by decide), z19 i hi, nI_add, if_pos (by rw [z1, e1]; exact nI_le hb2 (by omega)), inc_n]
    rfl
