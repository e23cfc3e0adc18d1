theorem nI_m11 (s : Nat) : nI s * (11 : Int32) = nI (s * 11) := (Int32.ofNat_mul s 11).symm
theorem choose_c {z : SS} {sh : Int32} {s u B E : Nat} {f : Nat → Int} (hs : s < 6) (hu : u ≤ B) (hB : B ≤ 10) (hE : E ≤ 9) (z2 : z.1 2 = sh) (z4 : z.1 4 = nI E)
    (hf : ∀ x, u + x ≤ B → z.2 9 (s * 11 + u + x) + z.2 10 s * nI x + z.2 11 (s * 11 + u + 11 + x) = iI (f x) ∧ -1000000000 ≤ f x ∧ f x ≤ 1000000000) :
    ∃ y, fX2_choose z (nI s) (nI u) (nI B) = some y ∧ y.1 = z.1 ∧ (∀ j, j ≠ 11 → j ≠ 12 → y.2 j = z.2 j) ∧ y.2 11 = upd (z.2 11) (s * 11 + u) (iI (bp f (mr (bt sh) E B u s)).1) ∧ y.2 12 = upd (z.2 12) (s * 11 + u) (nI (bp f (mr (bt sh) E B u s)).2) := by
  have hM : u + mr (bt sh) E B u s ≤ B := by
    unfold mr
    split
    · omega
    · have := Nat.min_le_right E (B - u); omega
  unfold fX2_choose
  rw [may_n hs hu hB hE z2 z4, nI_m11, nI_add]
  generalize mr (bt sh) E B u s = M at hM
  have bb : ∀ x, u + x ≤ B → -1000000000 ≤ (bp f x).1 ∧ (bp f x).1 ≤ 1000000000 := by
    intro x
    induction x with
    | zero => intro hx; exact (hf 0 hx).2
    | succ x ih =>
      intro hx
      rw [bp]
      split
      · exact ih (by omega)
      · exact (hf (x + 1) hx).2
  have hh := for_inv (fun k i (q : Int32 × SS) => fX2_choose_L27 (fun (x10 : Int32) (c11 : SS) => ckb 77 (nI (s * 11 + u)) (some (sA c11 11 (nI (s * 11 + u)).toNatClampNeg x10))) (nI s) (nI M) (nI (s * 11 + u)) k q.1 (nI i) q.2) (M + 1) (fun q => ckb 77 (nI (s * 11 + u)) (some (sA q.2 11 (nI (s * 11 + u)).toNatClampNeg q.1))) (fun i q => q.2.1 = z.1 ∧ (∀ j, j ≠ 12 → q.2.2 j = z.2 j) ∧ (i = 0 ∧ q.2.2 12 = z.2 12 ∨ ∃ x, i = x + 1 ∧ q.1 = iI (bp f x).1 ∧ q.2.2 12 = upd (z.2 12) (s * 11 + u) (nI (bp f x).2))) ?_ ?_ fu (0, z) (fu_big (by omega)) ⟨rfl, fun _ _ => rfl, Or.inl ⟨rfl, rfl⟩⟩
  · obtain ⟨⟨a6, y⟩, ⟨y1, y2, y3⟩, e⟩ := hh
    rcases y3 with ⟨q, -⟩ | ⟨x, x1, x2, x3⟩
    · omega
    · have hx : x = M := by omega
      subst hx
      have x2' : a6 = iI (bp f x).1 := x2
      refine ⟨sA y 11 (s * 11 + u) a6, ?_, y1, fun j a b => by rw [sA_2, if_neg a]; exact y2 j b, ?_, by rw [sA_2, if_neg (by omega)]; exact x3⟩
      · refine Eq.trans e ?_
        show ckb 77 (nI (s * 11 + u)) (some (sA y 11 (nI (s * 11 + u)).toNatClampNeg a6)) = _
        rw [ckb_n (by omega) (by decide), nI_clamp (by omega)]
      · rw [sA_2, if_pos rfl, x2', show y.2 11 = z.2 11 from y2 11 (by omega)]
  · intro k i ⟨a6, y⟩ hi ⟨y1, y2, y3⟩
    have y2' : ∀ j, j ≠ 12 → y.2 j = z.2 j := y2
    obtain ⟨f1, f2, f3⟩ := hf i (by omega)
    show ∃ q2 : Int32 × SS, _ ∧ fX2_choose_L27 _ (nI s) (nI M) (nI (s * 11 + u)) (k + 1) a6 (nI i) y = fX2_choose_L27 _ (nI s) (nI M) (nI (s * 11 + u)) k q2.1 (nI (i + 1)) q2.2
    rw [fX2_choose_L27, if_neg (fun q => by have := (nI_ltI (by omega) (by omega)).mp q; omega), nI_add, ald_n (by omega) (by decide), ald_n hs (by decide), show (11 : Int32) = nI 11 from rfl, nI_add, nI_add, ald_n (by omega) (by decide), y2' 9 (by omega), y2' 10 (by omega), y2' 11 (by omega), f1, inc_n, nI_clamp (by omega)]
    simp only [jn_e, ckb_n (show s * 11 + u < 66 by omega) (show 66 < 2 ^ 31 by decide)]
    rcases y3 with ⟨q, q2⟩ | ⟨x, x1, x2, x3⟩
    · subst q
      rw [if_pos (show nI 0 = 0 from rfl)]
      refine ⟨(iI (f 0), sA y 12 (s * 11 + u) (nI 0)), ⟨y1, fun j hj => by rw [sA_2, if_neg hj]; exact y2' j hj, Or.inr ⟨0, rfl, rfl, ?_⟩⟩, rfl⟩
      show (sA y 12 (s * 11 + u) (nI 0)).2 12 = _
      rw [sA_2, if_pos rfl, show y.2 12 = z.2 12 from q2]
      rfl
    · subst x1
      have x2' : a6 = iI (bp f x).1 := x2
      have x3' : y.2 12 = upd (z.2 12) (s * 11 + u) (nI (bp f x).2) := x3
      have hb := bb x (by omega)
      rw [if_neg (nI_ne0 (by omega) (by omega)), x2']
      by_cases hc : f (x + 1) ≤ (bp f x).1
      · rw [if_pos ((iI_le (by omega) (by omega) (by omega) (by omega)).mpr hc)]
        refine ⟨(iI (bp f x).1, y), ⟨y1, y2', Or.inr ⟨x + 1, rfl, ?_, ?_⟩⟩, rfl⟩
        · rw [bp, if_pos hc]
        · rw [bp, if_pos hc]; exact x3'
      · rw [if_neg (fun q => hc ((iI_le (by omega) (by omega) (by omega) (by omega)).mp q))]
        refine ⟨(iI (f (x + 1)), sA y 12 (s * 11 + u) (nI (x + 1))), ⟨y1, fun j hj => by rw [sA_2, if_neg hj]; exact y2' j hj, Or.inr ⟨x + 1, rfl, ?_, ?_⟩⟩, rfl⟩
        · rw [bp, if_neg hc]
        · rw [bp, if_neg hc]
          show (sA y 12 (s * 11 + u) (nI (x + 1))).2 12 = _
          rw [sA_2, if_pos rfl, x3']
          funext j
          rw [upd_e, upd_e, upd_e]
          by_cases e : j = s * 11 + u
          · rw [if_pos e, if_pos e]
          · rw [if_neg e, if_neg e, if_neg e]
  · intro k ⟨a6, y⟩ hI
    show fX2_choose_L27 _ (nI s) (nI M) (nI (s * 11 + u)) (k + 1) a6 (nI (M + 1)) y = _
    rw [fX2_choose_L27, if_pos (nI_lt (by omega) (by omega))]
