/-! rival: the reference's walk -/
theorem FX_mw {c m z : SS} (hW : WOK c) (hR : WR c m) (hf : FX m z) {h : Nat → Nat} (hr : HR z h) (hb : ∀ j, h j ≤ 60) : MW c z (c.1 2) h := by
  have n3 := hW.1.2.2
  have hRz := WR_of hR (CM.rf c) hf.ms
  exact ⟨hRz.1, hRz.2.1, hRz.2.2.1, hRz.2.2.2.2.2.2.1, hRz.2.2.2.2.2.2.2.1, fun j hj => ⟨hr j (by omega), hb j⟩⟩
/-- what stands at a hold's number -/
def rv_R (c z : SS) (a : Nat) : Prop := (z.2 24 (4 * a) = iI (gV c (vB c - psm (rv_d a) (vn c)) (Dh (rv_d a))).1.1 ∧ z.2 25 (4 * a) = iI (gV c (vB c - psm (rv_d a) (vn c)) (Dh (rv_d a))).1.2) ∧ z.2 24 (4 * a + 2) = iI (gV c (vB c - psm (rv_d a) (vn c)) (Dh (rv_d a))).2.1 ∧ z.2 25 (4 * a + 2) = iI (gV c (vB c - psm (rv_d a) (vn c)) (Dh (rv_d a))).2.2
theorem four_m {z : SS} {a : Nat} (ha : a < 46656) (x1 x2 : Int32) (K : SS → Option SS) : ∃ y, fX7_settle_L31 K (nI a) x1 x2 fu 0 z = K y ∧ y.1 = z.1 ∧ (∀ j, j ≠ 24 → j ≠ 25 → y.2 j = z.2 j) ∧ (∀ i, y.2 24 i = if 4 * a ≤ i ∧ i < 4 * a + 4 then x1 else z.2 24 i) ∧ ∀ i, y.2 25 i = if 4 * a ≤ i ∧ i < 4 * a + 4 then x2 else z.2 25 i := by
  have hf := for_inv (fun f k (q : SS) => fX7_settle_L31 K (nI a) x1 x2 f (nI k) q) 4 K (fun k q => q.1 = z.1 ∧ (∀ j, j ≠ 24 → j ≠ 25 → q.2 j = z.2 j) ∧ (∀ i, q.2 24 i = if 4 * a ≤ i ∧ i < 4 * a + k then x1 else z.2 24 i) ∧ ∀ i, q.2 25 i = if 4 * a ≤ i ∧ i < 4 * a + k then x2 else z.2 25 i) ?_ ?_ fu z (fu_big (by omega)) ⟨rfl, fun _ _ _ => rfl, fun i => by rw [if_neg (by omega)], fun i => by rw [if_neg (by omega)]⟩
  · obtain ⟨y, ⟨g1, g2, g3, g4⟩, e⟩ := hf
    exact ⟨y, e, g1, g2, g3, g4⟩
  · intro f k q hk ⟨g1, g2, g3, g4⟩
    show ∃ q2, _ ∧ fX7_settle_L31 K (nI a) x1 x2 (f + 1) (nI k) q = fX7_settle_L31 K (nI a) x1 x2 f (nI (k + 1)) q2
    refine ⟨sA (sA q 24 (4 * a + k) x1) 25 (4 * a + k) x2, ⟨g1, fun j h24 h25 => by rw [sA_2, if_neg h25, sA_2, if_neg h24]; exact g2 j h24 h25, fun i => ?_, fun i => ?_⟩, ?_⟩
    · rw [sA_2, if_neg (by omega), sA_2, if_pos rfl, upd_e, g3]
      by_cases e : i = 4 * a + k
      · rw [if_pos e, if_pos (by omega)]
      · rw [if_neg e]
        by_cases w : 4 * a ≤ i ∧ i < 4 * a + k
        · rw [if_pos w, if_pos (by omega)]
        · rw [if_neg w, if_neg (by omega)]
    · rw [sA_2, if_pos rfl, upd_e, sA_2, if_neg (show ¬ (25 : Nat) = 24 by omega), g4]
      by_cases e : i = 4 * a + k
      · rw [if_pos e, if_pos (by omega)]
      · rw [if_neg e]
        by_cases w : 4 * a ≤ i ∧ i < 4 * a + k
        · rw [if_pos w, if_pos (by omega)]
        · rw [if_neg w, if_neg (by omega)]
    · rw [fX7_settle_L31, if_neg (n4 hk), nI_x4, nI_add, ckb_n (by omega) (by decide), ckb_n (by omega) (by decide), nI_clamp (by omega), inc_n]
  · intro f q hq
    show fX7_settle_L31 K (nI a) x1 x2 (f + 1) (nI 4) q = K q
    rw [fX7_settle_L31, if_pos (show (4 : Int32) ≤ nI 4 by decide)]
theorem settle_m {c m z : SS} (hW : WOK c) (hR : WR c m) (hz : FX m z) {a : Nat} (ha : a < 46656) (hok : rv_ok c a) (hr : HR z (rv_d a)) (hnx : psm (rv_d a) (vn c) < vB c → ∀ s, s < vn c → cn2 c (Dh (rv_d a)) s = true → a + 6 ^ s < 46656 ∧ rv_d (a + 6 ^ s) = uh (rv_d a) s (rv_d a s + 1) ∧ rv_R c z (a + 6 ^ s)) :
    ∃ y, fX7_settle z (nI a) = some y ∧ FX m y ∧ rv_R c y a ∧ (∀ i, (i < 4 * a ∨ 4 * a + 4 ≤ i) → y.2 24 i = z.2 24 i ∧ y.2 25 i = z.2 25 i) ∧ y.1 26 = rv_cF (gF c (vB c - psm (rv_d a) (vn c)) (Dh (rv_d a))) := by
  obtain ⟨⟨n1, n2, n3⟩, -, ⟨b1, b2⟩, ⟨e1, e2⟩, -⟩ := id hW
  have hd9 : ∀ j, rv_d a j ≤ 9 := fun j => by have := rv_dl a j; omega
  have hmw := FX_mw hW hR hz hr (fun j => by have := rv_dl a j; omega)
  have hl := hmw.l2 hW
  obtain ⟨v1, v2, v3⟩ := flv_f c (c.1 2) (rv_d a) z
  generalize hzz : flv c (c.1 2) (rv_d a) z = q at v1 v2 v3
  have hdl : rdB c (bt (c.1 2)) (dly (bt (c.1 2)) (rv_d a)) 0 = rD c (Dh (rv_d a)) := by
    funext p
    unfold rD rdB dly Dh
    rw [dl_psm hok.2.1]
  have hq : FX m q := ⟨fun k hk => by rw [v1]; exact hz.1 k hk, fun j h17 h18 h24 h25 => by rw [v2 j h18]; exact hz.2 j h17 h18 h24 h25⟩
  have hrq : HR q (rv_d a) := fun j hj => by rw [v2 17 (by omega)]; exact hr j hj
  have hRq := WR_of hR (CM.rf c) hq.ms
  have q0 : q.1 0 = nI (vn c) := by rw [hRq.1]; exact n1
  have q2 : q.1 2 = c.1 2 := hRq.2.1
  have q10 : q.1 10 = nI (vB c) := by rw [hRq.2.2.2.1]; exact b1
  have q11 : q.1 11 = nI (vE c) := by rw [hRq.2.2.2.2.1]; exact e1
  have hgood : ∀ r, fX7_goodOf q r 255 = some (gdS c (fun p => bt (c.1 5) p && bt 255 p) (bt r)) := fun r => good_ms hRq.2.2.1 hRq.2.2.2.2.2.2.2.1 r 255
  have hoth : ∀ r, fX7_othersOf q r = some (otS c (bt r)) := fun r => others_ms hRq.2.2.2.2.2.2.2.1 r
  have hg2 : gdS c (fun p => bt (c.1 5) p && bt 255 p) (bt (bs (rD c (Dh (rv_d a))))) = iI (heD c (Dh (rv_d a))).1 := by
    rw [gd_bs, gd_255, gdS_sm]; rfl
  have ho2 : otS c (bt (bs (rD c (Dh (rv_d a))))) = iI (heD c (Dh (rv_d a))).2 := by
    rw [ot_bs, otS_sm]; rfl
  have hhe := heD_bd hW (Dh (rv_d a))
  obtain ⟨r, a1, a2⟩ := canAny_m (c := c) (z := q) (h := rv_d a) n3 b2 q0 q2 q10 q11 e2 hrq hd9
  unfold fX7_settle
  rw [now_m hW hmw, Option.bind_some, hdl, hzz, hgood, Option.bind_some, hoth, Option.bind_some, hg2, ho2, a1, Option.bind_some]
  have hpsB := hok.2.2.2
  rcases a2 with ⟨rfl, a3⟩ | ⟨rfl, a3⟩
  · rw [if_pos rfl]
    obtain ⟨y, y1, y2, y3, y4, y5⟩ := four_m (z := q) ha (iI (heD c (Dh (rv_d a))).1) (iI (heD c (Dh (rv_d a))).2) (fun c13 => some (sF c13 26 (-6 : Int32)))
    rw [y1]
    obtain ⟨g1, g2⟩ := gV_no (c := c) (r := vB c - psm (rv_d a) (vn c)) (D := Dh (rv_d a)) (a3.imp (fun w => by omega) id)
    refine ⟨_, rfl, ⟨fun k hk => ?_, fun j h17 h18 h24 h25 => ?_⟩, ?_, fun i hi => ?_, ?_⟩
    · rw [sF_1, if_neg hk, y2]; exact hq.1 k hk
    · rw [sF_2, y3 j h24 h25]; exact hq.2 j h17 h18 h24 h25
    · unfold rv_R
      rw [g1, sF_2, y4, y5, y4, y5, if_pos (by omega), if_pos (by omega), if_pos (by omega), if_pos (by omega)]
      exact ⟨⟨rfl, rfl⟩, rfl, rfl⟩
    · rw [sF_2, y4, y5, if_neg (by omega), if_neg (by omega), v2 24 (by omega), v2 25 (by omega)]
      exact ⟨rfl, rfl⟩
    · rw [sF_1, if_pos rfl, g2]; rfl
  · rw [if_neg (show ¬ (1 : Int32) = 0 by decide)]
    obtain ⟨t, ht⟩ : ∃ t, vB c - psm (rv_d a) (vn c) = t + 1 := ⟨vB c - psm (rv_d a) (vn c) - 1, by omega⟩
    have hbd := gV_bd hW t
    have nxt : ∀ s, s < vn c → cn2 c (Dh (rv_d a)) s = true → a + 6 ^ s < 46656 ∧ (q.2 24 (4 * (a + 6 ^ s)) = iI (gV c t (up (Dh (rv_d a)) s)).1.1 ∧ q.2 25 (4 * (a + 6 ^ s)) = iI (gV c t (up (Dh (rv_d a)) s)).1.2) ∧ q.2 24 (4 * (a + 6 ^ s) + 2) = iI (gV c t (up (Dh (rv_d a)) s)).2.1 ∧ q.2 25 (4 * (a + 6 ^ s) + 2) = iI (gV c t (up (Dh (rv_d a)) s)).2.2 := by
      intro s hs hc
      obtain ⟨u1, u2, u3⟩ := hnx a3 s hs hc
      unfold rv_R at u3
      rw [u2, Dh_up] at u3
      have hps : psm (uh (rv_d a) s (rv_d a s + 1)) (vn c) = psm (rv_d a) (vn c) + 1 := by
        have := congrFun (Dh_up (rv_d a) s) (vn c - 1)
        have dN : ∀ X : Nat → Nat, Dh X (vn c - 1) = psm X (vn c) := fun X => by
          unfold Dh
          rw [show vn c - 1 + 1 = vn c by omega]
        unfold up at this
        rw [if_pos (by omega), dN, dN] at this
        exact this
      rw [hps, show vB c - (psm (rv_d a) (vn c) + 1) = t by omega] at u3
      rw [v2 24 (by omega), v2 25 (by omega)]
      exact ⟨u1, u3⟩
    generalize hv0 : (fun s => (gV c t (up (Dh (rv_d a)) s)).2) = w0
    generalize hv1 : (fun s => (gV c t (up (Dh (rv_d a)) s)).1) = w1
    have pb0 : ∀ s, PB (w0 s) := fun s => by rw [← hv0]; exact (hbd _).2
    have pb1 : ∀ s, PB (w1 s) := fun s => by rw [← hv1]; exact (hbd _).1
    have n0 : ∀ s, s < vn c → cn2 c (Dh (rv_d a)) s = true → a + 6 ^ s < 46656 ∧ q.2 24 (4 * (a + 6 ^ s) + 2 * (1 - 0)) = iI (w0 s).1 ∧ q.2 25 (4 * (a + 6 ^ s) + 2 * (1 - 0)) = iI (w0 s).2 := fun s hs hc => by
      obtain ⟨u1, u2, u3, u4⟩ := nxt s hs hc
      rw [← hv0]
      exact ⟨u1, u3, u4⟩
    have n1' : ∀ s, s < vn c → cn2 c (Dh (rv_d a)) s = true → a + 6 ^ s < 46656 ∧ q.2 24 (4 * (a + 6 ^ s) + 2 * (1 - 1)) = iI (w1 s).1 ∧ q.2 25 (4 * (a + 6 ^ s) + 2 * (1 - 1)) = iI (w1 s).2 := fun s hs hc => by
      obtain ⟨u1, ⟨u2, u3⟩, -⟩ := nxt s hs hc
      rw [← hv1]
      exact ⟨u1, u2, u3⟩
    have hpos : ∀ s, 1 ≤ 6 ^ s := fun s => Nat.le_trans (Nat.one_le_two_pow (n := s)) (Nat.pow_le_pow_left (by decide) s)
    -- who is god, one has passed
    obtain ⟨y1, c1, c2, c3, c4, c5, c6⟩ := choose_m (c := c) (z := q) (h := rv_d a) (a := a) (w := 0) (pd := 1) (v := w0) (b := heD c (Dh (rv_d a))) (p4 := iI (heD c (Dh (rv_d a))).1) (p5 := iI (heD c (Dh (rv_d a))).2) n3 ha (by omega) (by omega) q0 q2 q11 e2 hrq hd9 n0 pb0 hhe (fun _ => ⟨rfl, rfl⟩) (fun h => by omega)
    have z1 : ∀ s, s < vn c → cn2 c (Dh (rv_d a)) s = true → a + 6 ^ s < 46656 ∧ y1.2 24 (4 * (a + 6 ^ s) + 2 * (1 - 1)) = iI (w1 s).1 ∧ y1.2 25 (4 * (a + 6 ^ s) + 2 * (1 - 1)) = iI (w1 s).2 := fun s hs hc => by
      have := hpos s
      rw [c5, c6, if_neg (by omega), if_neg (by omega)]
      exact n1' s hs hc
    obtain ⟨y2, d1, d2, d3, d4, d5, d6⟩ := choose_m (c := c) (z := y1) (h := rv_d a) (a := a) (w := 1) (pd := 1) (v := w1) (b := heD c (Dh (rv_d a))) (p4 := iI (heD c (Dh (rv_d a))).1) (p5 := iI (heD c (Dh (rv_d a))).2) n3 ha (by omega) (by omega) (by rw [c2 0 (by omega)]; exact q0) (by rw [c2 2 (by omega)]; exact q2) (by rw [c2 11 (by omega)]; exact q11) e2 (fun j hj => by rw [c4 17 (by omega) (by omega)]; exact hrq j hj) hd9 z1 pb1 hhe (fun _ => ⟨rfl, rfl⟩) (fun h => by omega)
    have hP0 := rn_bd (g := decide (0 = 0)) (can := cn2 c (Dh (rv_d a))) pb0 hhe (vn c)
    have hP1 := rn_bd (g := decide (1 = 0)) (can := cn2 c (Dh (rv_d a))) pb1 hhe (vn c)
    have z2 : ∀ s, s < vn c → cn2 c (Dh (rv_d a)) s = true → a + 6 ^ s < 46656 ∧ y2.2 24 (4 * (a + 6 ^ s) + 2 * (1 - 1)) = iI (w1 s).1 ∧ y2.2 25 (4 * (a + 6 ^ s) + 2 * (1 - 1)) = iI (w1 s).2 := fun s hs hc => by
      have := hpos s
      rw [d5, d6, if_neg (by omega), if_neg (by omega)]
      exact z1 s hs hc
    obtain ⟨y3, f1, f2, f3, f4, f5, f6⟩ := choose_m (c := c) (z := y2) (h := rv_d a) (a := a) (w := 1) (pd := 0) (v := w1) (b := (rn (decide (0 = 0)) w0 (cn2 c (Dh (rv_d a))) (heD c (Dh (rv_d a))) (vn c)).1) (p4 := iI (heD c (Dh (rv_d a))).1) (p5 := iI (heD c (Dh (rv_d a))).2) n3 ha (by omega) (by omega) (by rw [d2 0 (by omega), c2 0 (by omega)]; exact q0) (by rw [d2 2 (by omega), c2 2 (by omega)]; exact q2) (by rw [d2 11 (by omega), c2 11 (by omega)]; exact q11) e2 (fun j hj => by rw [d4 17 (by omega) (by omega), c4 17 (by omega) (by omega)]; exact hrq j hj) hd9 z2 pb1 hP0 (fun h => by omega) (fun _ => by
      rw [d5, d6, if_neg (by omega), if_neg (by omega), c5, c6, if_pos (by omega), if_pos (by omega)]
      exact ⟨rfl, rfl⟩)
    have z3 : ∀ s, s < vn c → cn2 c (Dh (rv_d a)) s = true → a + 6 ^ s < 46656 ∧ y3.2 24 (4 * (a + 6 ^ s) + 2 * (1 - 0)) = iI (w0 s).1 ∧ y3.2 25 (4 * (a + 6 ^ s) + 2 * (1 - 0)) = iI (w0 s).2 := fun s hs hc => by
      have := hpos s
      rw [f5, f6, if_neg (by omega), if_neg (by omega), d5, d6, if_neg (by omega), if_neg (by omega), c5, c6, if_neg (by omega), if_neg (by omega)]
      exact n0 s hs hc
    obtain ⟨y4, g1, g2, g3, g4, g5, g6⟩ := choose_m (c := c) (z := y3) (h := rv_d a) (a := a) (w := 0) (pd := 0) (v := w0) (b := (rn (decide (1 = 0)) w1 (cn2 c (Dh (rv_d a))) (heD c (Dh (rv_d a))) (vn c)).1) (p4 := iI (heD c (Dh (rv_d a))).1) (p5 := iI (heD c (Dh (rv_d a))).2) n3 ha (by omega) (by omega) (by rw [f2 0 (by omega), d2 0 (by omega), c2 0 (by omega)]; exact q0) (by rw [f2 2 (by omega), d2 2 (by omega), c2 2 (by omega)]; exact q2) (by rw [f2 11 (by omega), d2 11 (by omega), c2 11 (by omega)]; exact q11) e2 (fun j hj => by rw [f4 17 (by omega) (by omega), d4 17 (by omega) (by omega), c4 17 (by omega) (by omega)]; exact hrq j hj) hd9 z3 pb0 hP1 (fun h => by omega) (fun _ => by
      rw [f5, f6, if_neg (by omega), if_neg (by omega), d5, d6, if_pos (by omega), if_pos (by omega)]
      exact ⟨rfl, rfl⟩)
    refine ⟨y4, ?_, ⟨fun k hk => ?_, fun j h17 h18 h24 h25 => ?_⟩, ?_, fun i hi => ?_, ?_⟩
    · rw [show fX7_choose q (nI a) 0 1 _ _ = _ from c1, Option.bind_some, show fX7_choose y1 (nI a) 1 1 _ _ = _ from d1, Option.bind_some, show fX7_choose y2 (nI a) 1 0 _ _ = _ from f1, Option.bind_some, show fX7_choose y3 (nI a) 0 0 _ _ = _ from g1, Option.bind_some]
    · rw [g2 k hk, f2 k hk, d2 k hk, c2 k hk]; exact hq.1 k hk
    · rw [g4 j h24 h25, f4 j h24 h25, d4 j h24 h25, c4 j h24 h25]; exact hq.2 j h17 h18 h24 h25
    · unfold rv_R
      rw [ht, gV, hv0, hv1, ← rn_tk, ← rn_tk, ← rn_tk, ← rn_tk]
      refine ⟨⟨?_, ?_⟩, ?_, ?_⟩
      · rw [g5, if_pos (by omega)]; rfl
      · rw [g6, if_pos (by omega)]; rfl
      · rw [g5, if_neg (by omega), f5, if_pos (by omega)]; rfl
      · rw [g6, if_neg (by omega), f6, if_pos (by omega)]; rfl
    · rw [g5, g6, if_neg (by omega), if_neg (by omega), f5, f6, if_neg (by omega), if_neg (by omega), d5, d6, if_neg (by omega), if_neg (by omega), c5, c6, if_neg (by omega), if_neg (by omega), v2 24 (by omega), v2 25 (by omega)]
      exact ⟨rfl, rfl⟩
    · rw [g3, ht, gF, hv0, hv1, ← rn_tk, ← rn_tk]; rfl
