/-! the relation between the class's state and the reference's -/
def vK (c : SS) : Nat := (c.1 0).toNatClampNeg
def vn (c : SS) : Nat := (c.1 1).toNatClampNeg
def vB (c : SS) : Nat := (c.1 3).toNatClampNeg
def vE (c : SS) : Nat := (c.1 4).toNatClampNeg
def vS (c : SS) : Nat := (c.1 6).toNatClampNeg
def vse (c : SS) (s : Nat) : Nat := (c.2 1 s).toNatClampNeg
def va (c : SS) (p : Nat) : Nat := (c.2 2 p).toNatClampNeg
def vco (c : SS) (p : Nat) : Nat := (c.2 3 p).toNatClampNeg
def gd9 (x : Int32) : Prop := -9 ≤ x.toInt ∧ x.toInt ≤ 9
/-- a person's row -/
def pOK (c : SS) (p : Nat) : Prop := (c.2 2 p = nI (va c p) ∧ va c p < 6 ∧ (bt (c.1 5) p = true → va c p < vn c)) ∧ (c.2 3 p = nI (vco c p) ∧ vco c p ≤ 99) ∧ (gd9 (c.2 4 p) ∧ gd9 (c.2 5 p) ∧ gd9 (c.2 6 p)) ∧ ∃ k, k < 128 ∧ c.2 7 p = nI k
def WOK (c : SS) : Prop :=
  (c.1 1 = nI (vn c) ∧ 1 ≤ vn c ∧ vn c ≤ 6) ∧ (∀ s, vn c ≤ s → bt (c.1 2) s = false) ∧ (c.1 3 = nI (vB c) ∧ vB c ≤ 9) ∧ (c.1 4 = nI (vE c) ∧ vE c ≤ 9) ∧
  (∀ p, 8 ≤ p → bt (c.1 5) p = false) ∧ (c.1 6 = nI (vS c) ∧ vS c ≤ 8) ∧ (∀ p, 8 ≤ p → bt (c.1 7) p = false ∧ bt (c.1 8) p = false) ∧
  (∀ s, s < 6 → c.2 1 s = nI (vse c s) ∧ vse c s ≤ 9) ∧ ∀ p, p < 8 → pOK c p
def pR (c m : SS) (p : Nat) : Prop := m.2 4 p = c.2 2 p ∧ m.2 5 p = c.2 3 p ∧ m.2 6 p = c.2 4 p ∧ m.2 7 p = c.2 5 p ∧ m.2 8 p = c.2 6 p ∧ m.2 9 p = c.2 7 p
def sR (c m : SS) : Prop := (∀ k, k < vS c → ∃ p, p < 8 ∧ m.2 12 k = nI p ∧ (m.2 13 k = 0 ∨ m.2 13 k = 1)) ∧ ∀ p, p < 8 → (bt (c.1 7) p = true ↔ ∃ k, k < vS c ∧ m.2 12 k = nI p ∧ m.2 13 k = 1) ∧ (bt (c.1 8) p = true ↔ ∃ k, k < vS c ∧ m.2 12 k = nI p ∧ m.2 13 k = 0) ∧ (bt (c.1 7) p = true → va c p < vn c)
def WR (c m : SS) : Prop := m.1 0 = c.1 1 ∧ m.1 2 = c.1 2 ∧ m.1 3 = c.1 5 ∧ m.1 10 = c.1 3 ∧ m.1 11 = c.1 4 ∧ m.1 14 = c.1 6 ∧ (∀ s, s < vn c → m.2 1 s = c.2 1 s) ∧ (∀ p, p < 8 → pR c m p) ∧ sR c m
def PR (c m : SS) : Prop := m.1 16 = c.1 0 ∧ (c.1 0 = nI (vK c) ∧ vK c ≤ 20) ∧ ∀ j, j < 20 → m.2 15 j = c.2 0 j ∧ 0 ≤ (c.2 0 j).toInt ∧ (c.2 0 j).toInt ≤ 126
/-- what the reference keeps of an image from a place on, as a state -/
def unp (f : Nat → Int32) (o : Nat) : SS := (fun i => if i = 0 then f o else if i = 2 then f (o + 1) else if i = 3 then f (o + 2) else if i = 10 then f (o + 3) else if i = 11 then f (o + 4) else f (o + 5),
  fun a j => if a = 1 then f (o + 6 + j) else f (o + 12 + 8 * j + (if a = 12 then 6 else if a = 13 then 7 else a - 4)))
def iR (i : tg_I) (m : SS) (k : Nat) : Prop := match i with
  | none => m.2 28 k = 0
  | some q => m.2 28 k = 1 ∧ WOK q.2 ∧ WR q.2 (unp (m.2 27) (90 * k))
/-- rows that are used again hold nothing large -/
def XB (c : SS) : Prop := ∀ a, a < 6 → (c.2 20 a).toInt ≤ 99 ∧ (c.2 17 a).toInt ≤ 99
def Inv (c m : SS) (i0 i1 : tg_I) : Prop := WOK c ∧ WR c m ∧ PR c m ∧ iR i0 m 0 ∧ iR i1 m 1 ∧ XB c
/-- nothing that lasts has changed -/
def MS (m m2 : SS) : Prop := (m2.1 0 = m.1 0 ∧ m2.1 2 = m.1 2 ∧ m2.1 3 = m.1 3 ∧ m2.1 10 = m.1 10 ∧ m2.1 11 = m.1 11 ∧ m2.1 14 = m.1 14 ∧ m2.1 16 = m.1 16) ∧ (m2.2 1 = m.2 1 ∧ m2.2 4 = m.2 4 ∧ m2.2 5 = m.2 5 ∧ m2.2 6 = m.2 6 ∧ m2.2 7 = m.2 7 ∧ m2.2 8 = m.2 8 ∧ m2.2 9 = m.2 9 ∧ m2.2 12 = m.2 12 ∧ m2.2 13 = m.2 13 ∧ m2.2 15 = m.2 15 ∧ m2.2 27 = m.2 27 ∧ m2.2 28 = m.2 28)
def CM (c c2 : SS) : Prop := (∀ k, k ≤ 8 → c2.1 k = c.1 k) ∧ (∀ k, k ≤ 7 → c2.2 k = c.2 k) ∧ (XB c → XB c2)
theorem MS.rf (m : SS) : MS m m := ⟨⟨rfl, rfl, rfl, rfl, rfl, rfl, rfl⟩, rfl, rfl, rfl, rfl, rfl, rfl, rfl, rfl, rfl, rfl, rfl, rfl⟩
theorem CM.rf (c : SS) : CM c c := ⟨fun _ _ => rfl, fun _ _ => rfl, id⟩
theorem MS.tr {a b c : SS} (h : MS a b) (g : MS b c) : MS a c := by
  unfold MS at *
  simp only [g, h, and_self]
theorem CM.tr {a b c : SS} (h : CM a b) (g : CM b c) : CM a c := ⟨fun k hk => (g.1 k hk).trans (h.1 k hk), fun k hk => (g.2.1 k hk).trans (h.2.1 k hk), fun q => g.2.2 (h.2.2 q)⟩
theorem WR_of {c c2 m m2 : SS} (h : WR c m) (hc : CM c c2) (hm : MS m m2) : WR c2 m2 := by
  obtain ⟨⟨a0, a2, a3, a10, a11, a14, a16⟩, b1, b4, b5, b6, b7, b8, b9, b12, b13, b15, -, -⟩ := hm
  have e : ∀ k, k ≤ 8 → c2.1 k = c.1 k := hc.1
  have f : ∀ k, k ≤ 7 → c2.2 k = c.2 k := hc.2.1
  have hn : vn c2 = vn c := by unfold vn; rw [e 1 (by omega)]
  have hS : vS c2 = vS c := by unfold vS; rw [e 6 (by omega)]
  unfold WR sR pR va at *
  rw [hn, hS, a0, a2, a3, a10, a11, a14, b1, b4, b5, b6, b7, b8, b9, b12, b13, e 1 (by omega), e 2 (by omega), e 3 (by omega), e 4 (by omega), e 5 (by omega), e 6 (by omega), e 7 (by omega), e 8 (by omega), f 1 (by omega), f 2 (by omega), f 3 (by omega), f 4 (by omega), f 5 (by omega), f 6 (by omega), f 7 (by omega)]
  exact h
theorem WOK_of {c c2 : SS} (h : WOK c) (hc : CM c c2) : WOK c2 := by
  have e : ∀ k, k ≤ 8 → c2.1 k = c.1 k := hc.1
  have f : ∀ k, k ≤ 7 → c2.2 k = c.2 k := hc.2.1
  unfold WOK pOK vn vB vE vS vse va vco at *
  rw [e 1 (by omega), e 2 (by omega), e 3 (by omega), e 4 (by omega), e 5 (by omega), e 6 (by omega), e 7 (by omega), e 8 (by omega), f 1 (by omega), f 2 (by omega), f 3 (by omega), f 4 (by omega), f 5 (by omega), f 6 (by omega), f 7 (by omega)]
  exact h
theorem PR_of {c c2 m m2 : SS} (h : PR c m) (hc : CM c c2) (hm : MS m m2) : PR c2 m2 := by
  unfold PR vK at *
  rw [hc.1 0 (by omega), hc.2.1 0 (by omega), hm.1.2.2.2.2.2.2, hm.2.2.2.2.2.2.2.2.2.2.1]
  exact h
theorem iR_of {i : tg_I} {m m2 : SS} {k : Nat} (h : iR i m k) (hm : MS m m2) : iR i m2 k := by
  have e27 : m2.2 27 = m.2 27 := hm.2.2.2.2.2.2.2.2.2.2.2.1
  have e28 : m2.2 28 = m.2 28 := hm.2.2.2.2.2.2.2.2.2.2.2.2
  cases i with
  | none => show m2.2 28 k = 0; rw [e28]; exact h
  | some q => show m2.2 28 k = 1 ∧ _; rw [e28, e27]; exact h
theorem Inv_of {c c2 m m2 : SS} {i0 i1 : tg_I} (h : Inv c m i0 i1) (hc : CM c c2) (hm : MS m m2) : Inv c2 m2 i0 i1 :=
  ⟨WOK_of h.1 hc, WR_of h.2.1 hc hm, PR_of h.2.2.1 hc hm, iR_of h.2.2.2.1 hm, iR_of h.2.2.2.2.1 hm, hc.2.2 h.2.2.2.2.2⟩
/-! the checks of arguments -/
theorem i32_lt {a b : Int32} : a < b ↔ a.toInt < b.toInt := Int32.lt_iff_toInt_lt
theorem i32_le {a b : Int32} : a ≤ b ↔ a.toInt ≤ b.toInt := Int32.le_iff_toInt_le
theorem i64_lt {a b : Int64} : a < b ↔ a.toInt < b.toInt := Int64.lt_iff_toInt_lt
theorem win (v a b : Int32) : fX6_within v a b = if a.toInt ≤ v.toInt ∧ v.toInt ≤ b.toInt then 1 else 0 := by
  unfold fX6_within
  by_cases h1 : v < a
  · rw [if_pos h1, if_neg]
    have := i32_lt.mp h1
    omega
  · rw [if_neg h1]
    have g1 : ¬ v.toInt < a.toInt := fun q => h1 (i32_lt.mpr q)
    by_cases h2 : b < v
    · rw [if_pos h2, if_neg]
      have := i32_lt.mp h2
      omega
    · rw [if_neg h2, if_pos]
      have g2 : ¬ b.toInt < v.toInt := fun q => h2 (i32_lt.mpr q)
      omega
theorem lgc_lt (x y : Int64) : lg_cmp x y < 0 ↔ x.toInt < y.toInt := by
  unfold lg_cmp
  by_cases h1 : x > y
  · rw [if_pos h1]
    have := i64_lt.mp h1
    constructor
    · intro h; exact absurd h (by decide)
    · intro h; omega
  · rw [if_neg h1]
    have g1 : ¬ y.toInt < x.toInt := fun q => h1 (i64_lt.mpr q)
    by_cases h2 : x = y
    · subst h2
      simp
    · rw [if_neg h2]
      have : x.toInt ≠ y.toInt := fun q => h2 (Int64.toInt_inj.mp q)
      constructor
      · intro _; omega
      · intro _; decide
theorem lgc_gt (x y : Int64) : 0 < lg_cmp x y ↔ y.toInt < x.toInt := by
  unfold lg_cmp
  by_cases h1 : x > y
  · rw [if_pos h1]
    have := i64_lt.mp h1
    constructor
    · intro h; omega
    · intro h; decide
  · rw [if_neg h1]
    have g1 : ¬ y.toInt < x.toInt := fun q => h1 (i64_lt.mpr q)
    by_cases h2 : x = y
    · subst h2
      simp
    · rw [if_neg h2]
      constructor
      · intro h; exact absurd h (by decide)
      · intro h; omega
theorem lin (v : Int32) (a b : Int64) : fX7_in v.toInt64 a b = if a.toInt ≤ v.toInt ∧ v.toInt ≤ b.toInt then 1 else 0 := by
  unfold fX7_in
  have e : v.toInt64.toInt = v.toInt := Int32.toInt_toInt64 v
  by_cases h1 : lg_cmp v.toInt64 a < 0
  · rw [if_pos h1, if_neg]
    have := (lgc_lt _ _).mp h1
    rw [e] at this
    omega
  · rw [if_neg h1]
    have g1 : ¬ v.toInt64.toInt < a.toInt := fun q => h1 ((lgc_lt _ _).mpr q)
    rw [e] at g1
    by_cases h2 : 0 < lg_cmp v.toInt64 b
    · rw [if_pos h2, if_neg]
      have := (lgc_gt _ _).mp h2
      rw [e] at this
      omega
    · rw [if_neg h2, if_pos]
      have g2 : ¬ b.toInt < v.toInt64.toInt := fun q => h2 ((lgc_gt _ _).mpr q)
      rw [e] at g2
      omega
