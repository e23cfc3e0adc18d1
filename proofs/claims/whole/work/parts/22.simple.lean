theorem sF_1 (c : SS) (k : Nat) (v : Int32) (j : Nat) : (sF c k v).1 j = if j = k then v else c.1 j := rfl
theorem sF_2 (c : SS) (k : Nat) (v : Int32) : (sF c k v).2 = c.2 := rfl
theorem sA_1 (c : SS) (k i : Nat) (v : Int32) : (sA c k i v).1 = c.1 := rfl
theorem sA_2 (c : SS) (k i : Nat) (v : Int32) (j : Nat) : (sA c k i v).2 j = if j = k then upd (c.2 k) i v else c.2 j := rfl
theorem upd_e (f : Nat → Int32) (k : Nat) (x : Int32) (j : Nat) : upd f k x j = if j = k then x else f j := rfl
theorem WOK_cg {c c2 : SS} (h : WOK c) (e : ∀ k, 1 ≤ k → k ≤ 8 → c2.1 k = c.1 k) (f : ∀ k, 1 ≤ k → k ≤ 7 → c2.2 k = c.2 k) : WOK c2 := by
  unfold WOK pOK vn vB vE vS vse va vco at *
  rw [e 1 (by omega) (by omega), e 2 (by omega) (by omega), e 3 (by omega) (by omega), e 4 (by omega) (by omega), e 5 (by omega) (by omega), e 6 (by omega) (by omega), e 7 (by omega) (by omega), e 8 (by omega) (by omega), f 1 (by omega) (by omega), f 2 (by omega) (by omega), f 3 (by omega) (by omega), f 4 (by omega) (by omega), f 5 (by omega) (by omega), f 6 (by omega) (by omega), f 7 (by omega) (by omega)]
  exact h
theorem WR_cg {c c2 m m2 : SS} (h : WR c m) (e : ∀ k, 1 ≤ k → k ≤ 8 → c2.1 k = c.1 k) (f : ∀ k, 1 ≤ k → k ≤ 7 → c2.2 k = c.2 k) (g : ∀ k, k = 0 ∨ k = 2 ∨ k = 3 ∨ k = 10 ∨ k = 11 ∨ k = 14 → m2.1 k = m.1 k) (q : ∀ k, k = 1 ∨ (4 ≤ k ∧ k ≤ 9) ∨ k = 12 ∨ k = 13 → m2.2 k = m.2 k) : WR c2 m2 := by
  unfold WR sR pR va vn vS at *
  rw [e 1 (by omega) (by omega), e 2 (by omega) (by omega), e 3 (by omega) (by omega), e 4 (by omega) (by omega), e 5 (by omega) (by omega), e 6 (by omega) (by omega), e 7 (by omega) (by omega), e 8 (by omega) (by omega), f 1 (by omega) (by omega), f 2 (by omega) (by omega), f 3 (by omega) (by omega), f 4 (by omega) (by omega), f 5 (by omega) (by omega), f 6 (by omega) (by omega), f 7 (by omega) (by omega),
    g 0 (by omega), g 2 (by omega), g 3 (by omega), g 10 (by omega), g 11 (by omega), g 14 (by omega), q 1 (by omega), q 4 (by omega), q 5 (by omega), q 6 (by omega), q 7 (by omega), q 8 (by omega), q 9 (by omega), q 12 (by omega), q 13 (by omega)]
  exact h
theorem iR_cg {i : tg_I} {m m2 : SS} {k : Nat} (h : iR i m k) (e27 : m2.2 27 = m.2 27) (e28 : m2.2 28 = m.2 28) : iR i m2 k := by
  cases i with
  | none => show m2.2 28 k = 0; rw [e28]; exact h
  | some q => show m2.2 28 k = 1 ∧ _; rw [e28, e27]; exact h
theorem for_find {R : Type} (L : Nat → Nat → R) (K : Nat) (bad : Nat → Prop) (E : R) (F : Nat → R) (hE : ∀ n, L (n + 1) K = E) (hF : ∀ n i, i < K → bad i → L (n + 1) i = F i) (hS : ∀ n i, i < K → ¬ bad i → L (n + 1) i = L n (i + 1)) :
    ∀ n, K < n → (∃ i, i < K ∧ bad i ∧ (∀ j, j < i → ¬ bad j) ∧ L n 0 = F i) ∨ ((∀ j, j < K → ¬ bad j) ∧ L n 0 = E) := by
  have key : ∀ (j i n : Nat), i + j = K → j < n → (∀ q, q < i → ¬ bad q) → (∃ r, r < K ∧ bad r ∧ (∀ q, q < r → ¬ bad q) ∧ L n i = F r) ∨ ((∀ q, q < K → ¬ bad q) ∧ L n i = E) := by
    intro j
    induction j with
    | zero =>
      intro i n h1 h2 h3
      obtain rfl : i = K := by omega
      obtain ⟨n, rfl⟩ : ∃ k, n = k + 1 := ⟨n - 1, by omega⟩
      exact Or.inr ⟨h3, hE n⟩
    | succ j ih =>
      intro i n h1 h2 h3
      obtain ⟨n, rfl⟩ : ∃ k, n = k + 1 := ⟨n - 1, by omega⟩
      by_cases hb : bad i
      · exact Or.inl ⟨i, by omega, hb, h3, hF n i (by omega) hb⟩
      · rw [hS n i (by omega) hb]
        refine ih (i + 1) n (by omega) (by omega) (fun q hq => ?_)
        by_cases hqi : q = i
        · subst hqi; exact hb
        · exact h3 q (by omega)
  intro n hn
  exact key K 0 n (by omega) hn (fun q hq => absurd hq (by omega))
/-- two finders agree -/
theorem find_same {R : Type} {K : Nat} {bad : Nat → Prop} {a b E : R} {F : Nat → R} (h1 : (∃ i, i < K ∧ bad i ∧ (∀ j, j < i → ¬ bad j) ∧ a = F i) ∨ ((∀ j, j < K → ¬ bad j) ∧ a = E)) (h2 : (∃ i, i < K ∧ bad i ∧ (∀ j, j < i → ¬ bad j) ∧ b = F i) ∨ ((∀ j, j < K → ¬ bad j) ∧ b = E)) : a = b := by
  rcases h1 with ⟨i, hi, bi, mi, rfl⟩ | ⟨n1, rfl⟩ <;> rcases h2 with ⟨j, hj, bj, mj, rfl⟩ | ⟨n2, rfl⟩
  · rcases Nat.lt_trichotomy i j with h | h | h
    · exact absurd bi (mj i h)
    · rw [h]
    · exact absurd bj (mi j h)
  · exact absurd bi (n2 i hi)
  · exact absurd bj (n1 j hj)
  · rfl
theorem nI_ti {n : Nat} (h : n < 2 ^ 31) : (nI n).toInt = (n : Int) := nI_toInt h
/-- from an Int32 between 0 and a small bound to a number -/
theorem nI_back {x : Int32} (h : 0 ≤ x.toInt) : ∃ n : Nat, (n : Int) = x.toInt ∧ x = nI n ∧ n < 2 ^ 31 := by
  have hb := x.toInt_lt
  refine ⟨x.toInt.toNat, by omega, ?_, by omega⟩
  apply Int32.toInt_inj.mp
  rw [nI_ti (by omega)]
  omega
theorem ite0 {p : Prop} [Decidable p] : ((if p then (1 : Int32) else 0) = 0) ↔ ¬ p := by
  by_cases h : p
  · simp [h]
  · simp [h]
theorem ok_say : OK_say Inv := by
  intro c m i0 i1 a h
  obtain ⟨hW, hR, hP, hi0, hi1⟩ := h
  obtain ⟨p1, ⟨p2, p3⟩, p4⟩ := hP
  unfold fX6_say fX7_say fX1_put
  rw [win, lin]
  simp only [ite0]
  have e1 : (33 : Int32).toInt = 33 := rfl
  have e2 : (126 : Int32).toInt = 126 := rfl
  have e3 : (33 : Int64).toInt = 33 := rfl
  have e4 : (126 : Int64).toInt = 126 := rfl
  rw [e1, e2, e3, e4]
  by_cases ha : 33 ≤ a.toInt ∧ a.toInt ≤ 126
  · simp only [ha, and_self, not_true_eq_false, if_false, p1]
    by_cases hk : vK c < 20
    · have n0 : ¬ (c.1 0 < 0) := by rw [p2]; exact nI_pos (by omega)
      have n1 : c.1 0 < 20 := by rw [p2]; exact nI_lt (b := 20) hk (by decide)
      have n2 : ¬ c.1 0 = 20 := fun q => by rw [q] at n1; exact absurd n1 (by decide)
      have ec : (c.1 0).toNatClampNeg = vK c := rfl
      simp only [n0, n1, n2, if_false, if_true, ec]
      rw [p2, ckb_n hk (by decide), ckb_n hk (by decide), inc_n]
      simp only [Option.bind_some]
      rw [if_neg (show ¬ (1 : Int32) = 0 by decide)]
      have ev : vK (sF (sA c 0 (vK c) a) 0 (nI (vK c + 1))) = vK c + 1 := by
        unfold vK; rw [sF_1, if_pos rfl]; exact nI_clamp (by omega)
      refine ⟨_, _, _, rfl, rfl, WOK_cg hW (fun k h1 h2 => ?_) (fun k h1 h2 => ?_), WR_cg hR (fun k h1 h2 => ?_) (fun k h1 h2 => ?_) (fun k hk => ?_) (fun k hk => ?_), ⟨?_, ⟨?_, ?_⟩, fun j hj => ?_⟩, iR_cg hi0 rfl rfl, iR_cg hi1.1 rfl rfl, hi1.2⟩
      · rw [sF_1, if_neg (by omega), sA_1]
      · rw [sF_2, sA_2, if_neg (by omega)]
      · rw [sF_1, if_neg (by omega), sA_1]
      · rw [sF_2, sA_2, if_neg (by omega)]
      · rw [sF_1, if_neg (by omega), sA_1]
      · rw [sF_2, sA_2, if_neg (by omega)]
      · rw [sF_1, sF_1, if_pos rfl, if_pos rfl]
      · rw [ev]; rfl
      · rw [ev]; omega
      · rw [sF_2, sF_2, sA_2, sA_2, if_pos rfl, if_pos rfl, upd_e, upd_e]
        by_cases hj2 : j = vK c
        · rw [if_pos hj2, if_pos hj2]; exact ⟨rfl, by omega, by omega⟩
        · rw [if_neg hj2, if_neg hj2]; exact p4 j hj
    · have hk2 : vK c = 20 := by omega
      have e : c.1 0 = 20 := by rw [p2, hk2]; rfl
      rw [e]
      simp only [show ¬ (20 : Int32) < 0 by decide, show ¬ (20 : Int32) < 20 by decide, if_false, if_true, Option.bind_some]
      exact ⟨_, _, _, rfl, rfl, hW, hR, ⟨p1, ⟨p2, p3⟩, p4⟩, hi0, hi1⟩
  · simp only [ha, not_false_eq_true, if_true]
    exact ⟨_, _, _, rfl, rfl, hW, hR, ⟨p1, ⟨p2, p3⟩, p4⟩, hi0, hi1⟩
theorem ok_wipe : OK_wipe Inv := by
  intro c m i0 i1 h
  obtain ⟨hW, hR, hP, hi0, hi1⟩ := h
  obtain ⟨p1, ⟨p2, p3⟩, p4⟩ := hP
  unfold fX6_wipe fX7_wipe
  rw [p1]
  refine ⟨_, _, _, rfl, rfl, WOK_cg hW (fun k h1 h2 => ?_) (fun k h1 h2 => rfl), WR_cg hR (fun k h1 h2 => ?_) (fun k h1 h2 => rfl) (fun k hk => ?_) (fun k hk => rfl), ⟨rfl, ⟨rfl, ?_⟩, p4⟩, iR_cg hi0 rfl rfl, iR_cg hi1.1 rfl rfl, hi1.2⟩
  · rw [sF_1, if_neg (by omega)]
  · rw [sF_1, if_neg (by omega)]
  · rw [sF_1, if_neg (by omega)]
  · exact Nat.zero_le _
