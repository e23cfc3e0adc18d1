/-! the reference's fund -/
theorem nI_41m (s : Nat) : (41 : Int32) * nI s = nI (41 * s) := (Int32.ofNat_mul 41 s).symm
theorem nI_10m (s : Nat) : (10 : Int32) * nI s = nI (10 * s) := (Int32.ofNat_mul 10 s).symm
/-- the reference's state while it works on fund -/
def FN (m z : SS) : Prop := z.1 = m.1 ∧ ∀ j, j ≠ 17 → j ≠ 18 → j ≠ 21 → j ≠ 22 → j ≠ 23 → z.2 j = m.2 j
theorem FN.rf (m : SS) : FN m m := ⟨rfl, fun _ _ _ _ _ _ => rfl⟩
theorem FN.ms {m z : SS} (h : FN m z) : MS m z := MS_mk (fun k _ => by rw [h.1]) (fun k hk => h.2 k (by omega) (by omega) (by omega) (by omega) (by omega))
theorem coming_m {c z : SS} (hR : WR c z) {k : Nat} (hk : k < 7) : fX7_comingIn z (nI k) = some (bs (fun p => bt (c.2 7 p) k)) := by
  unfold fX7_comingIn bs
  refine for_up0 (fun n i b => fX7_comingIn_L4 z (nI k) n b (nI i)) 8 (fun p b => b ||| (if bt (c.2 7 p) k then (1 : Int32) <<< (nI p &&& 31) else 0)) some ?_ ?_ fu 0 (fu_big (by omega))
  · intro n i b hi
    show fX7_comingIn_L4 z (nI k) (n + 1) b (nI i) = fX7_comingIn_L4 z (nI k) n _ (nI (i + 1))
    obtain ⟨-, -, -, -, -, g6⟩ := hR.2.2.2.2.2.2.2.1 i hi
    rw [fX7_comingIn_L4, if_neg (n8 hi), inc_n, ald_n hi (by decide), g6]
    simp only [jn_e, bt_dec _ k (show k < 32 by omega)]
    cases e2 : bt (c.2 7 i) k with
    | false => rw [if_neg (show ¬ false = true by decide), if_neg (show ¬ false = true by decide)]
    | true => rw [if_pos rfl, if_pos rfl]
  · intro n b
    show fX7_comingIn_L4 z (nI k) (n + 1) b (nI 8) = some b
    rw [fX7_comingIn_L4, if_pos (show (8 : Int32) ≤ nI 8 by decide)]
theorem aN_cw {c : SS} (k u : Nat) : dV (tb c (cw c (bs (fun p => bt (c.2 7 p) k)))) (bt (c.1 2)) (vE c) u (vn c) (vn c) 0 = aN c k u := by
  unfold aN tb
  rw [gG_cg (q := cw c (bs (fun p => bt (c.2 7 p) k))) (q2 := qN c k) (fun p hp => by unfold cw qN; rw [bs_bt, decide_eq_true hp, Bool.true_and])]
/-- rows of nights that are done -/
def ER (a : Nat → Nat → Int) (B m j : Nat) (y : SS) : Prop := (∀ j', j' < j → ∀ d, d ≤ B → y.2 22 (10 * (m - (j' + 1)) + d) = iI (a (m - (j' + 1)) d)) ∧ ∀ j', j' ≤ j → ∀ l, l ≤ 40 → y.2 23 (41 * (m - j') + l) = iI (oW a B m j' l)
theorem byU_m {c m z : SS} (hW : WOK c) (hR : WR c m) (hz : FN m z) {k : Nat} (hk : k < 7) (a1 a3 : Int32) (K : SS → Option (Int32 × SS)) : ∃ y, FN m y ∧ y.2 23 = z.2 23 ∧ (∀ d, d ≤ vB c → y.2 22 (10 * k + d) = iI (aN c k d)) ∧ (∀ i, (i < 10 * k ∨ 10 * k + 10 ≤ i) → y.2 22 i = z.2 22 i) ∧ fX7_fund_L84 K a1 a3 (nI k) fu 0 z = K y := by
  obtain ⟨-, -, ⟨b1, b2⟩, -⟩ := id hW
  have hh := for_inv (fun n i (q : SS) => fX7_fund_L84 K a1 a3 (nI k) n (nI i) q) (vB c + 1) K (fun i q => FN m q ∧ q.2 23 = z.2 23 ∧ (∀ d, d < i → q.2 22 (10 * k + d) = iI (aN c k d)) ∧ ∀ i, (i < 10 * k ∨ 10 * k + 10 ≤ i) → q.2 22 i = z.2 22 i) ?_ ?_ fu z (fu_big (by omega)) ⟨hz, rfl, fun d hd => absurd hd (by omega), fun _ _ => rfl⟩
  · obtain ⟨y, ⟨g1, g2, g3, g4⟩, e⟩ := hh
    exact ⟨y, g1, g2, fun d hd => g3 d (by omega), g4, e⟩
  · intro n u q hu ⟨g1, g2, g3, g4⟩
    show ∃ q2, _ ∧ fX7_fund_L84 K a1 a3 (nI k) (n + 1) (nI u) q = fX7_fund_L84 K a1 a3 (nI k) n (nI (u + 1)) q2
    have hRq : WR c q := WR_of hR (CM.rf c) g1.ms
    obtain ⟨y, y1, y2, y3⟩ := bestBy_m hW hRq (FM.rf q) (B := u) (by omega) (bs (fun p => bt (c.2 7 p) k))
    obtain ⟨v1, -⟩ := bb_eq hW (bs (fun p => bt (c.2 7 p) k)) u (q.2 21)
    rw [aN_cw] at v1
    refine ⟨sA y 22 (10 * k + u) (iI (aN c k u)), ⟨⟨by rw [sA_1, y2.1]; exact g1.1, fun j a b d e f => by rw [sA_2, if_neg e, y2.2 j a b d]; exact g1.2 j a b d e f⟩, ?_, fun d hd => ?_, fun i hi => ?_⟩, ?_⟩
    · rw [sA_2, if_neg (by omega), y2.2 23 (by omega) (by omega) (by omega)]; exact g2
    · rw [sA_2, if_pos rfl, upd_e]
      by_cases e : d = u
      · rw [if_pos (by rw [e]), e]
      · rw [if_neg (by omega), y2.2 22 (by omega) (by omega) (by omega)]; exact g3 d (by omega)
    · rw [sA_2, if_pos rfl, upd_e, if_neg (by omega), y2.2 22 (by omega) (by omega) (by omega)]; exact g4 i hi
    · rw [fX7_fund_L84, if_neg (by rw [hRq.2.2.2.1, b1]; exact fun q => by have := (nI_ltI (by omega) (by omega)).mp q; omega), coming_m hRq hk, Option.bind_some, y1, Option.bind_some, nI_10m, nI_add, ckb_n (by omega) (by decide), nI_clamp (by omega), inc_n, v1]
  · intro n q ⟨g1, _⟩
    have hRq : WR c q := WR_of hR (CM.rf c) g1.ms
    show fX7_fund_L84 K a1 a3 (nI k) (n + 1) (nI (vB c + 1)) q = K q
    rw [fX7_fund_L84, if_pos (by rw [hRq.2.2.2.1, b1]; exact nI_lt (by omega) (by omega))]
theorem one_m {c q : SS} {a : Nat → Nat → Int} {B m j l : Nat} (hB : B ≤ 9) (hm : m ≤ 7) (hj : j < m) (hl : l ≤ 40) (q10 : q.1 10 = nI B) (h22 : ∀ d, d ≤ B → q.2 22 (10 * (m - (j + 1)) + d) = iI (a (m - (j + 1)) d)) (h23 : ∀ l, l ≤ 40 → q.2 23 (41 * (m - j) + l) = iI (oW a B m j l)) (ha : ∀ k u, -432 ≤ a k u ∧ a k u ≤ 432) (ho : ∀ l, -3024 ≤ oW a B m j l ∧ oW a B m j l ≤ 3024) (a1 a3 : Int32) (K : Int32 → Option (Int32 × SS)) : fX7_fund_L141 K q a1 a3 (nI (m - (j + 1))) (nI l) fu (-1000000) 0 = K (iI (oW a B m (j + 1) l)) := by
  have e1 : m - j = m - (j + 1) + 1 := by omega
  rw [e1] at h23
  rw [oW]
  generalize hk : m - (j + 1) = k at h22 h23 ⊢
  have hk6 : k ≤ 6 := by omega
  have fb : ∀ b, -4000 ≤ a k b + oW a B m j (l - b) ∧ a k b + oW a B m j (l - b) ≤ 4000 := fun b => by
    have := ha k b
    have := ho (l - b)
    omega
  generalize hfn : (fun b => a k b + oW a B m j (l - b)) = f
  have fb2 : ∀ b, -4000 ≤ f b ∧ f b ≤ 4000 := fun b => by rw [← hfn]; exact fb b
  have rd : ∀ b, b ≤ min B l → q.2 22 (10 * k + b) + q.2 23 (41 * (k + 1) + (l - b)) = iI (f b) := fun b hb => by
    rw [h22 b (by omega), h23 (l - b) (by omega), iI_add, ← hfn]
  have hh := for_inv (fun n i (x : Int32) => fX7_fund_L141 K q a1 a3 (nI k) (nI l) n x (nI i)) (min B l + 1) K (fun i x => (i = 0 ∧ x = -1000000) ∨ ∃ t, i = t + 1 ∧ x = iI (bp f t).1) ?_ ?_ fu (-1000000) (fu_big (by omega)) (Or.inl ⟨rfl, rfl⟩)
  · obtain ⟨x, x1, x2⟩ := hh
    refine Eq.trans x2 ?_
    rcases x1 with ⟨q, -⟩ | ⟨t, t1, t2⟩
    · omega
    · rw [t2, show t = min B l by omega]
  · intro n i x hi hx
    show ∃ x2, _ ∧ fX7_fund_L141 K q a1 a3 (nI k) (nI l) (n + 1) x (nI i) = fX7_fund_L141 K q a1 a3 (nI k) (nI l) n x2 (nI (i + 1))
    have hstep : fX7_fund_L141 K q a1 a3 (nI k) (nI l) (n + 1) x (nI i) = if iI (f i) ≤ x then fX7_fund_L141 K q a1 a3 (nI k) (nI l) n x (nI (i + 1)) else fX7_fund_L141 K q a1 a3 (nI k) (nI l) n (iI (f i)) (nI (i + 1)) := by
      rw [fX7_fund_L141, q10, if_neg (fun q => by have := (nI_ltI (by omega) (by omega)).mp q; omega), if_neg (fun q => by have := (nI_ltI (by omega) (by omega)).mp q; omega), nI_10m, nI_add, ald_n (by omega) (by decide), inc_n, inc_n, nI_41m, nI_add, show 41 * (k + 1) + l = 41 * (k + 1) + (l - i) + i by omega, nI_subn, ald_n (by omega) (by decide), rd i (by omega), jn_e]
    rw [hstep]
    have b1 := fb2 i
    rcases hx with ⟨h0, h1⟩ | ⟨t, t1, t2⟩
    · refine ⟨iI (f i), Or.inr ⟨0, by omega, by rw [h0]; rfl⟩, ?_⟩
      rw [if_neg]
      rw [h1, i32_le, iI_ti (by omega) (by omega), show (-1000000 : Int32).toInt = -1000000 from rfl]
      omega
    · have b2 := bp_bd (f := f) t (fun z _ => fb2 z)
      rw [t2, t1]
      rw [t1] at b1
      by_cases hq : f (t + 1) ≤ (bp f t).1
      · rw [if_pos ((iI_le (by omega) (by omega) (by omega) (by omega)).mpr hq)]
        exact ⟨_, Or.inr ⟨t + 1, rfl, by rw [bp, if_pos hq]⟩, rfl⟩
      · rw [if_neg (fun z => hq ((iI_le (by omega) (by omega) (by omega) (by omega)).mp z))]
        exact ⟨_, Or.inr ⟨t + 1, rfl, by rw [bp, if_neg hq]⟩, rfl⟩
  · intro n x hx
    show fX7_fund_L141 K q a1 a3 (nI k) (nI l) (n + 1) x (nI (min B l + 1)) = K x
    rw [fX7_fund_L141, q10]
    by_cases hc : B ≤ l
    · rw [if_pos (nI_lt (by omega) (by omega))]
    · rw [if_neg (fun q => by have := (nI_ltI (by omega) (by omega)).mp q; omega), if_pos (nI_lt (by omega) (by omega))]
