/-! rival: the reference's numbers of holds -/
def rv_d (a s : Nat) : Nat := a / 6 ^ s % 6
theorem rv_d6 {a s : Nat} (ha : a < 46656) (hs : 6 ≤ s) : rv_d a s = 0 := by
  have h : 46656 ≤ 6 ^ s := Nat.pow_le_pow_right (n := 6) (by decide) hs
  unfold rv_d
  rw [Nat.div_eq_of_lt (by omega)]
theorem rv_dl (a s : Nat) : rv_d a s ≤ 5 := by
  unfold rv_d
  omega
theorem rv_ds (a s : Nat) : a / 6 ^ s / 6 = a / 6 ^ (s + 1) := by
  rw [Nat.div_div_eq_div_mul, Nat.pow_succ]
theorem six {P : Nat → Prop} (h0 : P 0) (h1 : P 1) (h2 : P 2) (h3 : P 3) (h4 : P 4) (h5 : P 5) : ∀ s, s < 6 → P s := by
  intro s hs
  have : s = 0 ∨ s = 1 ∨ s = 2 ∨ s = 3 ∨ s = 4 ∨ s = 5 := by omega
  rcases this with rfl | rfl | rfl | rfl | rfl | rfl
  · exact h0
  · exact h1
  · exact h2
  · exact h3
  · exact h4
  · exact h5
theorem rv_pow : (6 : Nat) ^ 0 = 1 ∧ (6 : Nat) ^ 1 = 6 ∧ (6 : Nat) ^ 2 = 36 ∧ (6 : Nat) ^ 3 = 216 ∧ (6 : Nat) ^ 4 = 1296 ∧ (6 : Nat) ^ 5 = 7776 := by decide
/-- the number with one breath more -/
theorem rv_add {a s : Nat} (ha : a < 46656) (hs : s < 6) (hd : rv_d a s ≤ 4) : a + 6 ^ s < 46656 ∧ rv_d (a + 6 ^ s) = uh (rv_d a) s (rv_d a s + 1) := by
  obtain ⟨w0, w1, w2, w3, w4, w5⟩ := rv_pow
  have hlt : a + 6 ^ s < 46656 := by
    revert hd
    revert s
    refine fun {s} hs => six (P := fun s => rv_d a s ≤ 4 → a + 6 ^ s < 46656) ?_ ?_ ?_ ?_ ?_ ?_ s hs <;> (unfold rv_d; intro hd; omega)
  refine ⟨hlt, ?_⟩
  funext t
  unfold uh
  by_cases ht : t < 6
  · clear hlt
    revert hd
    revert s
    refine fun {s} hs => six (P := fun s => rv_d a s ≤ 4 → rv_d (a + 6 ^ s) t = if t = s then rv_d a s + 1 else rv_d a t) ?_ ?_ ?_ ?_ ?_ ?_ s hs
    all_goals
      refine six (P := fun t => _ → rv_d _ t = if t = _ then _ else rv_d a t) ?_ ?_ ?_ ?_ ?_ ?_ t ht <;> (unfold rv_d; intro hd; simp only [Nat.reduceEqDiff, if_true, if_false]; omega)
  · rw [if_neg (by omega), rv_d6 hlt (by omega), rv_d6 ha (by omega)]
theorem rv_lt6 {a n : Nat} (ha : a < 46656) (hn : n ≤ 6) (h : ∀ j, n ≤ j → rv_d a j = 0) : a < 6 ^ n := by
  obtain ⟨w0, w1, w2, w3, w4, w5⟩ := rv_pow
  have h0 := h 0
  have h1 := h 1
  have h2 := h 2
  have h3 := h 3
  have h4 := h 4
  have h5 := h 5
  unfold rv_d at h0 h1 h2 h3 h4 h5
  have : n = 6 ∨ n < 6 := by omega
  rcases this with rfl | hn
  · exact ha
  · revert h0 h1 h2 h3 h4 h5
    revert n
    refine fun {n} _ _ hn => six (P := fun n => (n ≤ 0 → a / 6 ^ 0 % 6 = 0) → (n ≤ 1 → a / 6 ^ 1 % 6 = 0) → (n ≤ 2 → a / 6 ^ 2 % 6 = 0) → (n ≤ 3 → a / 6 ^ 3 % 6 = 0) → (n ≤ 4 → a / 6 ^ 4 % 6 = 0) → (n ≤ 5 → a / 6 ^ 5 % 6 = 0) → a < 6 ^ n) ?_ ?_ ?_ ?_ ?_ ?_ n hn <;> (intro h0 h1 h2 h3 h4 h5; omega)
theorem rv_d0 : rv_d 0 = fun _ => 0 := by
  funext s
  unfold rv_d
  rw [Nat.zero_div]
theorem power_m {s : Nat} (hs : s ≤ 6) : fX7_power (nI s) = some (nI (6 ^ s)) := by
  unfold fX7_power
  refine for_up0 (fun f i (_ : Unit) => fX7_power_L4 (nI s) f (nI (6 ^ i)) (nI i)) s (fun _ u => u) (fun _ => some (nI (6 ^ s))) ?_ ?_ fu () (fu_big (by omega))
  · intro f i _ hi
    show fX7_power_L4 (nI s) (f + 1) (nI (6 ^ i)) (nI i) = fX7_power_L4 (nI s) f (nI (6 ^ (i + 1))) (nI (i + 1))
    rw [fX7_power_L4, if_neg (nI_ge hi (by omega)), inc_n, Nat.pow_succ, show nI (6 ^ i) * (6 : Int32) = nI (6 ^ i * 6) from (Int32.ofNat_mul _ 6).symm]
  · intro f _
    show fX7_power_L4 (nI s) (f + 1) (nI (6 ^ s)) (nI s) = _
    rw [fX7_power_L4, if_pos (Int32.le_refl _)]
theorem rv_dm6 {x : Nat} (hx : x < 2 ^ 31) : irm (nI x) 6 = nI (x % 6) ∧ nI x / 6 = nI (x / 6) := by
  obtain ⟨d1, d2⟩ := irm_ti (x := nI x) (y := 6) (by rw [nI_ti hx]; omega) (by decide)
  rw [nI_ti hx, show (6 : Int32).toInt = 6 from rfl] at d1 d2
  constructor
  · apply Int32.toInt_inj.mp
    rw [d1, nI_ti (by omega)]
    omega
  · apply Int32.toInt_inj.mp
    rw [d2, nI_ti (by omega)]
    omega
def rv_g (c : SS) (a s : Nat) : Prop := rv_d a s = 0 ∨ (s < vn c ∧ bt (c.1 2) s = false ∧ rv_d a s ≤ vE c)
theorem lay_l {c : SS} (hW : WOK c) {a : Nat} (ha : a < 46656) (K : SS → Option (Int32 × SS)) : ∀ (j i f : Nat) (q : SS), i + j = 6 → j < f → q.1 0 = nI (vn c) → q.1 2 = c.1 2 → q.1 11 = nI (vE c) → (∀ s, s < i → q.2 17 s = nI (rv_d a s)) → (∀ s, s < i → rv_g c a s) →
    (∃ y, fX7_layNumber_L4 K f (nI (a / 6 ^ i)) (nI i) q = K y ∧ y.1 = q.1 ∧ (∀ j, j ≠ 17 → y.2 j = q.2 j) ∧ (∀ s, s < 6 → y.2 17 s = nI (rv_d a s)) ∧ ∀ s, s < 6 → rv_g c a s) ∨ (∃ y, fX7_layNumber_L4 K f (nI (a / 6 ^ i)) (nI i) q = some (0, y) ∧ y.1 = q.1 ∧ (∀ j, j ≠ 17 → y.2 j = q.2 j) ∧ ∃ s, s < 6 ∧ ¬ rv_g c a s) := by
  have n3 := hW.1.2.2
  have e2 := hW.2.2.2.1.2
  intro j
  induction j with
  | zero =>
    intro i f q h1 h2 q0 q2 q11 h3 h4
    obtain ⟨f, rfl⟩ : ∃ k, f = k + 1 := ⟨f - 1, by omega⟩
    obtain rfl : i = 6 := by omega
    left
    refine ⟨q, ?_, rfl, fun _ _ => rfl, h3, h4⟩
    rw [fX7_layNumber_L4, if_pos (show (6 : Int32) ≤ nI 6 by decide)]
  | succ j ih =>
    intro i f q h1 h2 q0 q2 q11 h3 h4
    obtain ⟨f, rfl⟩ : ∃ k, f = k + 1 := ⟨f - 1, by omega⟩
    have hi : i < 6 := by omega
    have hx : a / 6 ^ i < 2 ^ 31 := Nat.lt_of_le_of_lt (Nat.div_le_self _ _) (by omega)
    obtain ⟨d1, d2⟩ := rv_dm6 hx
    have hd5 := rv_dl a i
    have hq17 : ∀ s, s < i + 1 → (sA q 17 i (nI (rv_d a i))).2 17 s = nI (rv_d a s) := fun s hs => by
      rw [sA_2, if_pos rfl, upd_e]
      by_cases e : s = i
      · rw [if_pos e, e]
      · rw [if_neg e]; exact h3 s (by omega)
    have go : rv_g c a i → (∃ y, fX7_layNumber_L4 K f (nI (a / 6 ^ (i + 1))) (nI (i + 1)) (sA q 17 i (nI (rv_d a i))) = K y ∧ y.1 = q.1 ∧ (∀ j, j ≠ 17 → y.2 j = q.2 j) ∧ (∀ s, s < 6 → y.2 17 s = nI (rv_d a s)) ∧ ∀ s, s < 6 → rv_g c a s) ∨ (∃ y, fX7_layNumber_L4 K f (nI (a / 6 ^ (i + 1))) (nI (i + 1)) (sA q 17 i (nI (rv_d a i))) = some (0, y) ∧ y.1 = q.1 ∧ (∀ j, j ≠ 17 → y.2 j = q.2 j) ∧ ∃ s, s < 6 ∧ ¬ rv_g c a s) := by
      intro hg
      rcases ih (i + 1) f (sA q 17 i (nI (rv_d a i))) (by omega) (by omega) q0 q2 q11 hq17 (fun s hs => by
        by_cases e : s = i
        · rw [e]; exact hg
        · exact h4 s (by omega)) with ⟨y, y1, y2, y3, y4, y5⟩ | ⟨y, y1, y2, y3, y4⟩
      · exact Or.inl ⟨y, y1, y2, fun j hj => by rw [y3 j hj, sA_2, if_neg hj], y4, y5⟩
      · exact Or.inr ⟨y, y1, y2, fun j hj => by rw [y3 j hj, sA_2, if_neg hj], y4⟩
    have bad : ¬ rv_g c a i → (∃ y, some ((0 : Int32), sA q 17 i (nI (rv_d a i))) = some (0, y) ∧ y.1 = q.1 ∧ (∀ j, j ≠ 17 → y.2 j = q.2 j) ∧ ∃ s, s < 6 ∧ ¬ rv_g c a s) := fun hg => ⟨_, rfl, sA_1 _ _ _ _, fun j hj => by rw [sA_2, if_neg hj], i, hi, hg⟩
    have eu : upd (q.2 17) i (nI (rv_d a i)) i = nI (rv_d a i) := by rw [upd_e, if_pos rfl]
    rw [fX7_layNumber_L4, if_neg (n6 hi), ckb_n hi (by decide), d1, show a / 6 ^ i % 6 = rv_d a i from rfl, nI_clamp (by omega), ald_n hi (by decide), d2, rv_ds, inc_n, eu]
    simp only [jn_e, ald_n hi (show 6 < 2 ^ 31 by decide), eu, q0, q11]
    by_cases c0 : rv_d a i = 0
    · rw [if_pos ((nI_nle0 (by omega)).mpr c0)]
      exact go (Or.inl c0)
    · rw [if_neg (fun w => c0 ((nI_nle0 (by omega)).mp w))]
      by_cases c1 : vn c ≤ i
      · rw [if_pos (nI_le c1 (by omega))]
        exact Or.inr (bad (fun w => w.elim c0 (fun w => absurd w.1 (by omega))))
      · rw [if_neg (nI_ge (by omega) (by omega))]
        have ho := open_m (sA q 17 i (nI (rv_d a i))) (show i < 32 by omega)
        rw [sA_1, q2] at ho
        by_cases c2 : bt (c.1 2) i = true
        · rw [if_pos (ho.mpr c2)]
          exact Or.inr (bad (fun w => w.elim c0 (fun w => absurd c2 (by rw [w.2.1]; decide))))
        · rw [if_neg (fun w => c2 (ho.mp w))]
          have c2' : bt (c.1 2) i = false := by
            cases e : bt (c.1 2) i with
            | false => rfl
            | true => exact absurd e c2
          by_cases c3 : rv_d a i ≤ vE c
          · rw [if_pos (nI_le c3 (by omega))]
            exact go (Or.inr ⟨by omega, c2', c3⟩)
          · rw [if_neg (nI_ge (by omega) (by omega))]
            exact Or.inr (bad (fun w => w.elim c0 (fun w => c3 w.2.2)))
/-- the reference's state in rival -/
def FX (m z : SS) : Prop := (∀ k, k ≠ 26 → z.1 k = m.1 k) ∧ ∀ j, j ≠ 17 → j ≠ 18 → j ≠ 24 → j ≠ 25 → z.2 j = m.2 j
theorem FX.ms {m z : SS} (h : FX m z) : MS m z := MS_mk (fun k hk => h.1 k (by omega)) (fun k hk => h.2 k (by omega) (by omega) (by omega) (by omega))
def rv_ok (c : SS) (a : Nat) : Prop := VH (bt (c.1 2)) (vE c) (vB c) (vn c) (rv_d a)
theorem lay_m {c m z : SS} (hW : WOK c) (hR : WR c m) (hz : FX m z) {a : Nat} (ha : a < 46656) : ∃ r y, fX7_layNumber z (nI a) = some (r, y) ∧ y.1 = z.1 ∧ (∀ j, j ≠ 17 → y.2 j = z.2 j) ∧ ((r = 0 ∧ ¬ rv_ok c a) ∨ (r = 1 ∧ rv_ok c a ∧ HR y (rv_d a))) := by
  obtain ⟨⟨n1, n2, n3⟩, -, ⟨b1, b2⟩, ⟨e1, e2⟩, -⟩ := id hW
  have z0 : z.1 0 = nI (vn c) := by rw [hz.1 0 (by omega), hR.1]; exact n1
  have z2 : z.1 2 = c.1 2 := by rw [hz.1 2 (by omega)]; exact hR.2.1
  have z10 : z.1 10 = nI (vB c) := by rw [hz.1 10 (by omega), hR.2.2.2.1]; exact b1
  have z11 : z.1 11 = nI (vE c) := by rw [hz.1 11 (by omega), hR.2.2.2.2.1]; exact e1
  unfold fX7_layNumber
  have hl := lay_l hW ha (fun c9 => Option.bind (fX7_heldIn c9) (fun q10 => if (c9.1 10) < q10 then some ((0 : Int32), c9) else some ((1 : Int32), c9))) 6 0 fu z (by omega) (fu_big (by omega)) z0 z2 z11 (fun s hs => absurd hs (by omega)) (fun s hs => absurd hs (by omega))
  rw [Nat.pow_zero, Nat.div_one] at hl
  rcases hl with ⟨y, y1, y2, y3, y4, y5⟩ | ⟨y, y1, y2, y3, s, s1, s2⟩
  · have hps := psm_le (h := rv_d a) (E := 5) (rv_dl a) (vn c)
    have hps2 : 5 * vn c ≤ 30 := by omega
    have hin : fX7_heldIn y = some (nI (psm (rv_d a) (vn c))) := heldIn_m n3 (by rw [y2]; exact z0) y4
    have y1' : fX7_layNumber_L4 (fun c9 => Option.bind (fX7_heldIn c9) (fun q10 => if (c9.1 10) < q10 then some ((0 : Int32), c9) else some ((1 : Int32), c9))) fu (nI a) 0 z = if nI (vB c) < nI (psm (rv_d a) (vn c)) then some ((0 : Int32), y) else some ((1 : Int32), y) := by
      refine Eq.trans y1 ?_
      rw [hin, Option.bind_some, y2, z10]
    rw [y1']
    have hok : psm (rv_d a) (vn c) ≤ vB c ↔ rv_ok c a := by
      constructor
      · intro q
        refine ⟨fun j => ?_, fun j hj => ?_, fun j hj => ?_, q⟩
        · by_cases hj : j < 6
          · rcases y5 j hj with w | w
            · omega
            · exact w.2.2
          · rw [rv_d6 ha (by omega)]; omega
        · by_cases hj6 : j < 6
          · rcases y5 j hj6 with w | w
            · exact w
            · rw [hj] at w; exact absurd w.2.1 (by decide)
          · exact rv_d6 ha (by omega)
        · by_cases hj6 : j < 6
          · rcases y5 j hj6 with w | w
            · exact w
            · omega
          · exact rv_d6 ha (by omega)
      · intro q; exact q.2.2.2
    by_cases q : psm (rv_d a) (vn c) ≤ vB c
    · rw [if_neg (fun w => by have := (nI_ltI (by omega) (by omega)).mp w; omega)]
      exact ⟨1, y, rfl, y2, y3, Or.inr ⟨rfl, hok.mp q, y4⟩⟩
    · rw [if_pos (nI_lt (by omega) (by omega))]
      exact ⟨0, y, rfl, y2, y3, Or.inl ⟨rfl, fun w => q (hok.mpr w)⟩⟩
  · refine ⟨0, y, y1, y2, y3, Or.inl ⟨rfl, fun w => s2 ?_⟩⟩
    by_cases e : rv_d a s = 0
    · exact Or.inl e
    · refine Or.inr ⟨?_, ?_, w.1 s⟩
      · apply Classical.byContradiction
        intro q
        exact e (w.2.2.1 s (by omega))
      · cases e2 : bt (c.1 2) s with
        | false => rfl
        | true => exact absurd (w.2.1 s e2) e
def Dh (h : Nat → Nat) (t : Nat) : Nat := psm h (t + 1)
theorem Dh_dd (h : Nat → Nat) (s : Nat) : dd (Dh h) s = h s := by
  unfold dd Dh
  by_cases e : s = 0
  · rw [if_pos e, e]
    show psm h 0 + h 0 - 0 = h 0
    show 0 + h 0 - 0 = h 0
    omega
  · rw [if_neg e, show s - 1 + 1 = s by omega]
    show psm h s + h s - psm h s = h s
    omega
theorem Dh_up (h : Nat → Nat) (s : Nat) : Dh (uh h s (h s + 1)) = up (Dh h) s := by
  funext t
  unfold Dh up
  have key : ∀ k, psm (uh h s (h s + 1)) k = if s < k then psm h k + 1 else psm h k := by
    intro k
    induction k with
    | zero => rw [if_neg (by omega)]; rfl
    | succ k ih =>
      show psm (uh h s (h s + 1)) k + uh h s (h s + 1) k = if s < k + 1 then psm h k + h k + 1 else psm h k + h k
      rw [ih]
      unfold uh
      by_cases e : k = s
      · subst e
        rw [if_neg (by omega), if_pos rfl, if_pos (by omega)]; omega
      · rw [if_neg e]
        by_cases q : s < k
        · rw [if_pos q, if_pos (by omega)]; omega
        · rw [if_neg q, if_neg (by omega)]
  rw [key]
  by_cases q : s ≤ t
  · rw [if_pos (by omega), if_pos q]
  · rw [if_neg (by omega), if_neg q]
theorem canH_m {c z : SS} {h : Nat → Nat} (z2 : z.1 2 = c.1 2) (z11 : z.1 11 = nI (vE c)) (hE : vE c ≤ 9) (hr : HR z h) (hh : ∀ j, h j ≤ 9) {s : Nat} (hs : s < 6) : fX7_canHold z (nI s) = some (if cn2 c (Dh h) s = true then 1 else 0) := by
  unfold fX7_canHold cn2
  rw [Dh_dd]
  have ho := open_m z (show s < 32 by omega)
  rw [z2] at ho
  have := hh s
  cases e : bt (c.1 2) s with
  | true =>
    rw [if_pos (ho.mpr e)]
    rfl
  | false =>
    rw [if_neg (fun w => by have := ho.mp w; rw [e] at this; cases this), ald_n hs (by decide), hr s hs, z11]
    by_cases q : h s < vE c
    · rw [if_neg (nI_ge q (by omega)), decide_eq_true q]; rfl
    · rw [if_pos (nI_le (by omega) (by omega)), decide_eq_false q]; rfl
theorem canAny_m {c z : SS} {h : Nat → Nat} (hn : vn c ≤ 6) (hB : vB c ≤ 9) (z0 : z.1 0 = nI (vn c)) (z2 : z.1 2 = c.1 2) (z10 : z.1 10 = nI (vB c)) (z11 : z.1 11 = nI (vE c)) (hE : vE c ≤ 9) (hr : HR z h) (hh : ∀ j, h j ≤ 9) : ∃ r, fX7_canHoldAny z = some r ∧ ((r = 0 ∧ (vB c ≤ psm h (vn c) ∨ ∀ s, s < vn c → cn2 c (Dh h) s = false)) ∨ (r = 1 ∧ psm h (vn c) < vB c)) := by
  have hps := psm_le hh (vn c)
  have hps2 : 9 * vn c ≤ 54 := by omega
  unfold fX7_canHoldAny
  have hf := for_inv (fun f i (q : Int32) => fX7_canHoldAny_L4 (fun x6 => if x6 = (0 : Int32) then some (0 : Int32) else Option.bind (fX7_heldIn z) (fun q8 => if (z.1 10) ≤ q8 then some (0 : Int32) else some (1 : Int32))) z f q (nI i)) (vn c) (fun x6 => if x6 = (0 : Int32) then some (0 : Int32) else Option.bind (fX7_heldIn z) (fun q8 => if (z.1 10) ≤ q8 then some (0 : Int32) else some (1 : Int32))) (fun i q => (q = 0 ∧ ∀ s, s < i → cn2 c (Dh h) s = false) ∨ q = 1) ?_ ?_ fu 0 (fu_big (by omega)) (Or.inl ⟨rfl, fun s hs => absurd hs (by omega)⟩)
  · obtain ⟨q, q1, q2⟩ := hf
    have q2' : fX7_canHoldAny_L4 (fun x6 => if x6 = (0 : Int32) then some (0 : Int32) else Option.bind (fX7_heldIn z) (fun q8 => if (z.1 10) ≤ q8 then some (0 : Int32) else some (1 : Int32))) z fu 0 0 = if q = 0 then some 0 else Option.bind (fX7_heldIn z) (fun q8 => if (z.1 10) ≤ q8 then some (0 : Int32) else some (1 : Int32)) := q2
    rw [q2']
    rcases q1 with ⟨q1, q3⟩ | q1
    · rw [if_pos q1]
      exact ⟨0, rfl, Or.inl ⟨rfl, Or.inr q3⟩⟩
    · rw [q1, if_neg (show ¬ (1 : Int32) = 0 by decide), heldIn_m hn z0 hr, Option.bind_some, z10]
      by_cases w : vB c ≤ psm h (vn c)
      · rw [if_pos (nI_le w (by omega))]
        exact ⟨0, rfl, Or.inl ⟨rfl, Or.inl w⟩⟩
      · rw [if_neg (nI_ge (by omega) (by omega))]
        exact ⟨1, rfl, Or.inr ⟨rfl, by omega⟩⟩
  · intro f i q hi hq
    show ∃ q2, _ ∧ fX7_canHoldAny_L4 _ z (f + 1) q (nI i) = fX7_canHoldAny_L4 _ z f q2 (nI (i + 1))
    rw [fX7_canHoldAny_L4, z0, if_neg (nI_ge hi (by omega)), inc_n, canH_m z2 z11 hE hr hh (show i < 6 by omega)]
    simp only [jn_e, Option.bind_some]
    rcases hq with ⟨q1, q3⟩ | q1
    · rw [if_pos q1]
      cases e : cn2 c (Dh h) i with
      | false =>
        rw [if_neg (show ¬ false = true by decide), if_pos rfl]
        refine ⟨0, Or.inl ⟨rfl, fun s hs => ?_⟩, rfl⟩
        by_cases w : s = i
        · rw [w]; exact e
        · exact q3 s (by omega)
      | true =>
        rw [if_pos rfl, if_neg (show ¬ (1 : Int32) = 0 by decide)]
        exact ⟨1, Or.inr rfl, rfl⟩
    · rw [q1, if_neg (show ¬ (1 : Int32) = 0 by decide)]
      exact ⟨1, Or.inr rfl, rfl⟩
  · intro f q hq
    show fX7_canHoldAny_L4 _ z (f + 1) q (nI (vn c)) = _
    rw [fX7_canHoldAny_L4, z0, if_pos (Int32.le_refl _)]
