/-! rival: the reference settles a hold -/
theorem nI_x4 (x : Nat) : (4 : Int32) * nI x = nI (4 * x) := (Int32.ofNat_mul 4 x).symm
theorem nI_x2 (x : Nat) : (2 : Int32) * nI x = nI (2 * x) := (Int32.ofNat_mul 2 x).symm
theorem nI_1w {w : Nat} (h : w ≤ 1) : (1 : Int32) - nI w = nI (1 - w) := by
  have := nI_subn (1 - w) w
  rw [Nat.sub_add_cancel h] at this
  exact this
theorem rn_bd {g : Bool} {v : Nat → rvP} {can : Nat → Bool} {b : rvP} (hv : ∀ s, PB (v s)) (hb : PB b) (i : Nat) : PB (rn g v can b i).1 := by
  rw [rn_tk]
  exact tk_in (Q := PB) hv hb i
theorem choose_l {c z : SS} {h : Nat → Nat} {a w : Nat} {v : Nat → rvP} {b : rvP} (hn : vn c ≤ 6) (hw : w ≤ 1) (z0 : z.1 0 = nI (vn c)) (z2 : z.1 2 = c.1 2) (z11 : z.1 11 = nI (vE c)) (hE : vE c ≤ 9) (hr : HR z h) (hh : ∀ j, h j ≤ 9) (hs : ∀ s, s < vn c → cn2 c (Dh h) s = true → a + 6 ^ s < 46656 ∧ z.2 24 (4 * (a + 6 ^ s) + 2 * (1 - w)) = iI (v s).1 ∧ z.2 25 (4 * (a + 6 ^ s) + 2 * (1 - w)) = iI (v s).2) (hv : ∀ s, PB (v s)) (hb : PB b) (a6 : Int32) (K : Int32 → Int32 → SS → Option SS) :
    ∃ y, fX7_choose_L71 K (nI a) (nI w) a6 fu (iI b.1) (iI b.2) 0 (sF z 26 (-6)) = K (iI (rn (decide (w = 0)) v (cn2 c (Dh h)) b (vn c)).1.1) (iI (rn (decide (w = 0)) v (cn2 c (Dh h)) b (vn c)).1.2) y ∧ y.2 = z.2 ∧ (∀ k, k ≠ 26 → y.1 k = z.1 k) ∧ y.1 26 = rv_cF (rn (decide (w = 0)) v (cn2 c (Dh h)) b (vn c)).2 := by
  generalize hg : decide (w = 0) = g
  have hf := for_inv (fun f i (q : Int32 × Int32 × SS) => fX7_choose_L71 K (nI a) (nI w) a6 f q.1 q.2.1 (nI i) q.2.2) (vn c) (fun q => K q.1 q.2.1 q.2.2) (fun i q => q.1 = iI (rn g v (cn2 c (Dh h)) b i).1.1 ∧ q.2.1 = iI (rn g v (cn2 c (Dh h)) b i).1.2 ∧ q.2.2.2 = z.2 ∧ (∀ k, k ≠ 26 → q.2.2.1 k = z.1 k) ∧ q.2.2.1 26 = rv_cF (rn g v (cn2 c (Dh h)) b i).2) ?_ ?_ fu (iI b.1, iI b.2, sF z 26 (-6)) (fu_big (by omega)) ⟨rfl, rfl, rfl, fun k hk => by rw [sF_1, if_neg hk], by rw [sF_1, if_pos rfl]; rfl⟩
  · obtain ⟨⟨x1, x2, y⟩, ⟨g1, g2, g3, g4, g5⟩, e⟩ := hf
    refine ⟨y, ?_, g3, g4, g5⟩
    have g1' : x1 = _ := g1
    have g2' : x2 = _ := g2
    rw [← g1', ← g2']
    exact e
  · intro f i ⟨a8, a9, q⟩ hi ⟨g1, g2, g3, g4, g5⟩
    show ∃ q2 : Int32 × Int32 × SS, _ ∧ fX7_choose_L71 K (nI a) (nI w) a6 (f + 1) a8 a9 (nI i) q = fX7_choose_L71 K (nI a) (nI w) a6 f q2.1 q2.2.1 (nI (i + 1)) q2.2.2
    have g1' : a8 = iI (rn g v (cn2 c (Dh h)) b i).1.1 := g1
    have g2' : a9 = iI (rn g v (cn2 c (Dh h)) b i).1.2 := g2
    have g3' : q.2 = z.2 := g3
    have g4' : ∀ k, k ≠ 26 → q.1 k = z.1 k := g4
    have g5' : q.1 26 = rv_cF (rn g v (cn2 c (Dh h)) b i).2 := g5
    have hidx : ((4 : Int32) * (nI a + nI (6 ^ i))) + ((2 : Int32) * ((1 : Int32) - nI w)) = nI (4 * (a + 6 ^ i) + 2 * (1 - w)) := by
      rw [nI_add, nI_x4, nI_1w hw, nI_x2, nI_add]
    have hrq : HR q h := fun j hj => by rw [g3']; exact hr j hj
    rw [fX7_choose_L71, g4' 0 (by omega), z0, if_neg (nI_ge hi (by omega)), power_m (by omega), Option.bind_some, canH_m (c := c) (by rw [g4' 2 (by omega)]; exact z2) (by rw [g4' 11 (by omega)]; exact z11) hE hrq hh (show i < 6 by omega), Option.bind_some, hidx, inc_n, g3']
    have hrb := rn_bd (g := g) (can := cn2 c (Dh h)) hv hb i
    have hvb := hv i
    have stay : rn g v (cn2 c (Dh h)) b (i + 1) = rn g v (cn2 c (Dh h)) b i → ∃ q2 : Int32 × Int32 × SS, (q2.1 = iI (rn g v (cn2 c (Dh h)) b (i + 1)).1.1 ∧ q2.2.1 = iI (rn g v (cn2 c (Dh h)) b (i + 1)).1.2 ∧ q2.2.2.2 = z.2 ∧ (∀ k, k ≠ 26 → q2.2.2.1 k = z.1 k) ∧ q2.2.2.1 26 = rv_cF (rn g v (cn2 c (Dh h)) b (i + 1)).2) ∧ fX7_choose_L71 K (nI a) (nI w) a6 f a8 a9 (nI (i + 1)) (sF q 26 (q.1 26)) = fX7_choose_L71 K (nI a) (nI w) a6 f q2.1 q2.2.1 (nI (i + 1)) q2.2.2 := by
      intro e
      rw [e]
      refine ⟨(a8, a9, sF q 26 (q.1 26)), ⟨g1', g2', g3', fun k hk => ?_, ?_⟩, rfl⟩
      · show (sF q 26 (q.1 26)).1 k = _
        rw [sF_1, if_neg hk]; exact g4' k hk
      · show (sF q 26 (q.1 26)).1 26 = _
        rw [sF_1, if_pos rfl]; exact g5'
    simp only [jn_e]
    by_cases hc : cn2 c (Dh h) i = true
    · obtain ⟨t1, t2, t3⟩ := hs i hi hc
      have hlt : 4 * (a + 6 ^ i) + 2 * (1 - w) < 186624 := by omega
      simp only [ald_n hlt (show 186624 < 2 ^ 31 by decide), hc, if_true, t2, t3]
      rw [if_neg (show ¬ (1 : Int32) = 0 by decide)]
      have take : rn g v (cn2 c (Dh h)) b (i + 1) = (v i, some i) → ∃ q2 : Int32 × Int32 × SS, (q2.1 = iI (rn g v (cn2 c (Dh h)) b (i + 1)).1.1 ∧ q2.2.1 = iI (rn g v (cn2 c (Dh h)) b (i + 1)).1.2 ∧ q2.2.2.2 = z.2 ∧ (∀ k, k ≠ 26 → q2.2.2.1 k = z.1 k) ∧ q2.2.2.1 26 = rv_cF (rn g v (cn2 c (Dh h)) b (i + 1)).2) ∧ fX7_choose_L71 K (nI a) (nI w) a6 f (iI (v i).1) (iI (v i).2) (nI (i + 1)) (sF q 26 (nI i)) = fX7_choose_L71 K (nI a) (nI w) a6 f q2.1 q2.2.1 (nI (i + 1)) q2.2.2 := by
        intro e
        rw [e]
        refine ⟨(iI (v i).1, iI (v i).2, sF q 26 (nI i)), ⟨rfl, rfl, g3', fun k hk => ?_, ?_⟩, rfl⟩
        · show (sF q 26 (nI i)).1 k = _
          rw [sF_1, if_neg hk]; exact g4' k hk
        · show (sF q 26 (nI i)).1 26 = _
          rw [sF_1, if_pos rfl]; rfl
      obtain ⟨⟨r1, r2⟩, r3, r4⟩ := hrb
      obtain ⟨⟨v1, v2⟩, v3, v4⟩ := hvb
      have hw2 : w = 0 ∨ w = 1 := by omega
      rcases hw2 with rfl | rfl
      · have hgt : g = true := by rw [← hg]; rfl
        rw [if_pos (show nI 0 = (0 : Int32) from rfl), g1']
        by_cases hk : (v i).1 ≤ (rn g v (cn2 c (Dh h)) b i).1.1
        · rw [if_pos ((iI_le (by omega) (by omega) (by omega) (by omega)).mpr hk)]
          rw [← g1']
          refine stay ?_
          rw [rn, if_neg]
          rintro ⟨-, w2⟩
          rw [hgt] at w2 hk
          have w2' : (rn true v (cn2 c (Dh h)) b i).1.1 < (v i).1 := w2
          omega
        · rw [if_neg (fun w => hk ((iI_le (by omega) (by omega) (by omega) (by omega)).mp w))]
          simp only [show ¬ (1 : Int32) = 0 by decide, if_false]
          refine take ?_
          rw [rn, if_pos]
          refine ⟨hc, ?_⟩
          rw [hgt] at hk ⊢
          show (rn true v (cn2 c (Dh h)) b i).1.1 < (v i).1
          omega
      · have hgt : g = false := by rw [← hg]; rfl
        rw [if_neg (show ¬ nI 1 = (0 : Int32) by decide), g2']
        by_cases hk : (v i).2 ≤ (rn g v (cn2 c (Dh h)) b i).1.2
        · rw [if_pos ((iI_le (by omega) (by omega) (by omega) (by omega)).mpr hk)]
          rw [← g2']
          refine stay ?_
          rw [rn, if_neg]
          rintro ⟨-, w2⟩
          rw [hgt] at w2 hk
          have w2' : (rn false v (cn2 c (Dh h)) b i).1.2 < (v i).2 := w2
          omega
        · rw [if_neg (fun w => hk ((iI_le (by omega) (by omega) (by omega) (by omega)).mp w))]
          simp only [show ¬ (1 : Int32) = 0 by decide, if_false]
          refine take ?_
          rw [rn, if_pos]
          refine ⟨hc, ?_⟩
          rw [hgt] at hk ⊢
          show (rn false v (cn2 c (Dh h)) b i).1.2 < (v i).2
          omega
    · simp only [hc, if_true, if_false]
      refine stay ?_
      rw [rn, if_neg (fun w => hc w.1)]
  · intro f ⟨a8, a9, q⟩ ⟨g1, g2, g3, g4, g5⟩
    have g4' : ∀ k, k ≠ 26 → q.1 k = z.1 k := g4
    show fX7_choose_L71 K (nI a) (nI w) a6 (f + 1) a8 a9 (nI (vn c)) q = _
    rw [fX7_choose_L71, g4' 0 (by omega), z0, if_pos (Int32.le_refl _)]
theorem jn_b0 {β : Type} {C : Prop} [Decidable C] {N i : Nat} {f : Nat → Int32} (B : Int32 → Option β) (a : Int32) (hC : ¬ C) (h : i < N) (hN : N < 2 ^ 31) : jn B (fun j => if C then j a else ald N f (nI i) (fun v => j v)) = B (f i) := by
  show (if C then B a else ald N f (nI i) (fun v => B v)) = B (f i)
  rw [if_neg hC, ald_n h hN]
theorem jn_b1 {β : Type} {C : Prop} [Decidable C] (B : Int32 → Option β) (a : Int32) (F : (Int32 → Option β) → Option β) (hC : C) : jn B (fun j => if C then j a else F j) = B a := by
  show (if C then B a else F B) = B a
  rw [if_pos hC]
theorem choose_m {c z : SS} {h : Nat → Nat} {a w pd : Nat} {v : Nat → rvP} {b : rvP} {p4 p5 : Int32} (hn : vn c ≤ 6) (ha : a < 46656) (hw : w ≤ 1) (hpd : pd ≤ 1) (z0 : z.1 0 = nI (vn c)) (z2 : z.1 2 = c.1 2) (z11 : z.1 11 = nI (vE c)) (hE : vE c ≤ 9) (hr : HR z h) (hh : ∀ j, h j ≤ 9) (hs : ∀ s, s < vn c → cn2 c (Dh h) s = true → a + 6 ^ s < 46656 ∧ z.2 24 (4 * (a + 6 ^ s) + 2 * (1 - w)) = iI (v s).1 ∧ z.2 25 (4 * (a + 6 ^ s) + 2 * (1 - w)) = iI (v s).2) (hv : ∀ s, PB (v s)) (hb : PB b) (h1 : pd = 1 → p4 = iI b.1 ∧ p5 = iI b.2) (h0 : pd = 0 → z.2 24 (4 * a + 2 * (1 - w) + 1) = iI b.1 ∧ z.2 25 (4 * a + 2 * (1 - w) + 1) = iI b.2) :
    ∃ y, fX7_choose z (nI a) (nI w) (nI pd) p4 p5 = some y ∧ (∀ k, k ≠ 26 → y.1 k = z.1 k) ∧ y.1 26 = rv_cF (rn (decide (w = 0)) v (cn2 c (Dh h)) b (vn c)).2 ∧ (∀ j, j ≠ 24 → j ≠ 25 → y.2 j = z.2 j) ∧ (∀ i, y.2 24 i = if i = 4 * a + 2 * w + pd then iI (rn (decide (w = 0)) v (cn2 c (Dh h)) b (vn c)).1.1 else z.2 24 i) ∧ ∀ i, y.2 25 i = if i = 4 * a + 2 * w + pd then iI (rn (decide (w = 0)) v (cn2 c (Dh h)) b (vn c)).1.2 else z.2 25 i := by
  have hat : (((4 : Int32) * nI a) + ((2 : Int32) * nI w)) + nI pd = nI (4 * a + 2 * w + pd) := by rw [nI_x4, nI_x2, nI_add, nI_add]
  have hon : (((4 : Int32) * nI a) + ((2 : Int32) * ((1 : Int32) - nI w))) + (1 : Int32) = nI (4 * a + 2 * (1 - w) + 1) := by rw [nI_x4, nI_1w hw, nI_x2, nI_add, inc_n]
  obtain ⟨y, y1, y2, y3, y4⟩ := choose_l (c := c) (z := z) (h := h) (a := a) (w := w) (v := v) (b := b) hn hw z0 z2 z11 hE hr hh hs hv hb (nI (4 * a + 2 * w + pd)) (fun x21 x22 c23 => ckb 186624 (nI (4 * a + 2 * w + pd)) (ckb 186624 (nI (4 * a + 2 * w + pd)) (some (sA (sA c23 24 (nI (4 * a + 2 * w + pd)).toNatClampNeg x21) 25 (nI (4 * a + 2 * w + pd)).toNatClampNeg x22))))
  refine ⟨sA (sA y 24 (4 * a + 2 * w + pd) (iI (rn (decide (w = 0)) v (cn2 c (Dh h)) b (vn c)).1.1)) 25 (4 * a + 2 * w + pd) (iI (rn (decide (w = 0)) v (cn2 c (Dh h)) b (vn c)).1.2), ?_, fun k hk => y3 k hk, y4, fun j h24 h25 => ?_, fun i => ?_, fun i => ?_⟩
  · have hfin : fX7_choose z (nI a) (nI w) (nI pd) p4 p5 = fX7_choose_L71 (fun x21 x22 c23 => ckb 186624 (nI (4 * a + 2 * w + pd)) (ckb 186624 (nI (4 * a + 2 * w + pd)) (some (sA (sA c23 24 (nI (4 * a + 2 * w + pd)).toNatClampNeg x21) 25 (nI (4 * a + 2 * w + pd)).toNatClampNeg x22)))) (nI a) (nI w) (nI (4 * a + 2 * w + pd)) fu (iI b.1) (iI b.2) 0 (sF z 26 (-6)) := by
      unfold fX7_choose
      rw [hat, hon]
      have hp2 : pd = 0 ∨ pd = 1 := by omega
      rcases hp2 with rfl | rfl
      · obtain ⟨t1, t2⟩ := h0 rfl
        rw [jn_b0 _ _ (show ¬ nI 0 = (1 : Int32) by decide) (by omega) (by decide), jn_b0 _ _ (show ¬ nI 0 = (1 : Int32) by decide) (by omega) (by decide), t1, t2]
      · obtain ⟨t1, t2⟩ := h1 rfl
        rw [jn_b1 _ _ _ (show nI 1 = (1 : Int32) from rfl), jn_b1 _ _ _ (show nI 1 = (1 : Int32) from rfl), t1, t2]
    rw [hfin]
    refine Eq.trans y1 ?_
    rw [ckb_n (by omega) (by decide), ckb_n (by omega) (by decide), nI_clamp (by omega)]
  · rw [sA_2, if_neg h25, sA_2, if_neg h24, y2]
  · rw [sA_2, if_neg (by omega), sA_2, if_pos rfl, upd_e, y2]
  · rw [sA_2, if_pos rfl, upd_e, sA_2, if_neg (show ¬ (25 : Nat) = 24 by omega), y2]
