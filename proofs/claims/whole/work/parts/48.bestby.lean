def kpH (z : SS) (h : Nat → Nat) : SS := lp 6 (fun i s => sA s 21 (0 + i) (nI (h i))) z
theorem kpH_f (z : SS) (h : Nat → Nat) : (kpH z h).1 = z.1 ∧ (∀ j, j ≠ 21 → (kpH z h).2 j = z.2 j) ∧ ∀ j, j < 6 → (kpH z h).2 21 j = nI (h j) := by
  obtain ⟨h1, h2, h3⟩ := lpA 21 0 6 (fun i => nI (h i)) z
  refine ⟨h1, h2, fun p hp => ?_⟩
  have := h3 p
  rw [if_pos (by omega)] at this
  exact this
theorem keep_m {z : SS} {h : Nat → Nat} (hr : HR z h) : fX7_keepHold z = some (kpH z h) := by
  unfold fX7_keepHold kpH
  refine (for_up (fun n i s => fX7_keepHold_L2 n (nI i) s) 6 (fun i s => sA s 21 (0 + i) (nI (h i))) some (fun _ s => s.2 17 = z.2 17) ?_ ?_ ?_ fu z (fu_big (by omega)) rfl).1
  · intro n i s hi hs
    show fX7_keepHold_L2 (n + 1) (nI i) s = fX7_keepHold_L2 n (nI (i + 1)) _
    rw [fX7_keepHold_L2, if_neg (n6 hi), ald_n hi (by decide), ckb_n hi (by decide), nI_clamp (by omega), inc_n, hs, hr i hi, Nat.zero_add]
  · intro n s hs
    show fX7_keepHold_L2 (n + 1) (nI 6) s = some s
    rw [fX7_keepHold_L2, if_pos (show (6 : Int32) ≤ nI 6 by decide)]
  · intro i s hi hs
    rw [sA_2, if_neg (by omega)]; exact hs
/-- the reference's state in a walk over all holds -/
def FM (m z : SS) : Prop := z.1 = m.1 ∧ ∀ j, j ≠ 17 → j ≠ 18 → j ≠ 21 → z.2 j = m.2 j
theorem FM_mw {c m z : SS} (hW : WOK c) (hR : WR c m) (hf : FM m z) {h : Nat → Nat} (hr : HR z h) (hb : ∀ j, h j ≤ 60) : MW c z (c.1 2) h := by
  obtain ⟨f1, f2⟩ := hf
  have n3 := hW.1.2.2
  refine ⟨by rw [f1]; exact hR.1, by rw [f1]; exact hR.2.1, by rw [f1]; exact hR.2.2.1, fun j hj => ?_, fun p hp => ?_, fun j hj => ⟨hr j (by omega), hb j⟩⟩
  · rw [f2 1 (by omega) (by omega) (by omega)]; exact hR.2.2.2.2.2.2.1 j hj
  · unfold pR
    rw [f2 4 (by omega) (by omega) (by omega), f2 5 (by omega) (by omega) (by omega), f2 6 (by omega) (by omega) (by omega), f2 7 (by omega) (by omega) (by omega), f2 8 (by omega) (by omega) (by omega), f2 9 (by omega) (by omega) (by omega)]
    exact hR.2.2.2.2.2.2.2.1 p hp
theorem FM_flv {m z c : SS} {sh : Int32} {h : Nat → Nat} (hf : FM m z) : FM m (flv c sh h z) := by
  obtain ⟨g1, g2, g3⟩ := flv_f c sh h z
  exact ⟨by rw [g1]; exact hf.1, fun j a b d => by rw [g2 j b]; exact hf.2 j a b d⟩
/-- who rides by a hold; its good among those who count -/
def rdH (c : SS) (h : Nat → Nat) : Nat → Bool := rdB c (bt (c.1 2)) (dly (bt (c.1 2)) h) 0
def ghH (c : SS) (cnt : Int32) (h : Nat → Nat) : Int32 := gdS c (fun p => bt (c.1 5) p && bt cnt p) (rdH c h)
def FB (c : SS) (cnt : Int32) (h : Nat → Nat) (a : Int32 × (Nat → Int32)) : Int32 × (Nat → Int32) := if ghH c cnt h ≤ a.1 then a else (ghH c cnt h, fun j => nI (h j))
/-- the best over all holds within B, as the reference finds it -/
def bbV (c : SS) (cnt : Int32) (B : Nat) (b : Nat → Int32) : Int32 × (Nat → Int32) := vis (FB c cnt) (bt (c.1 2)) (vE c) B (vn c) (vn c) (fun _ => 0) (-1000000, b)
theorem bestBy_m {c m z : SS} (hW : WOK c) (hR : WR c m) (hf : FM m z) {B : Nat} (hB : B ≤ 10) (cnt : Int32) : ∃ z2, fX7_bestBy z (nI B) cnt = some ((bbV c cnt B (z.2 21)).1, z2) ∧ FM m z2 ∧ ∀ j, j < 6 → z2.2 21 j = (bbV c cnt B (z.2 21)).2 j := by
  obtain ⟨⟨n1, n2, n3⟩, -, -, ⟨e1, e2⟩, -⟩ := id hW
  obtain ⟨q1, q2, q3⟩ := noH_f z
  unfold fX7_bestBy
  rw [noHold_m, Option.bind_some]
  have hh := enum_all (F := FB c cnt) (cl := bt (c.1 2)) (E := vE c) (B := B) (n := vn c) (L := fun j (s : Int32 × SS) => fX7_bestBy_L10 (nI B) cnt (j + 1) s.1 1 s.2) (K := fun s => some (s.1, s.2)) (Rel := fun h a s => s.1 = a.1 ∧ FM m s.2 ∧ HR s.2 h ∧ ∀ j, j < 6 → s.2.2 21 j = a.2 j) ?_ (fl := fu - 1) ?_ (-1000000, z.2 21) (-1000000, noH z) ⟨rfl, ⟨by rw [q1]; exact hf.1, fun j a b d => by rw [q2 j a]; exact hf.2 j a b d⟩, fun j hj => by rw [q3 j hj]; rfl, fun j hj => by rw [q2 21 (by omega)]⟩
  · obtain ⟨⟨g, s⟩, ⟨g1, g2, g3, g4⟩, g5⟩ := hh
    refine ⟨s, ?_, g2, g4⟩
    rw [show fu = fu - 1 + 1 from rfl]
    have g1' : g = (bbV c cnt B (z.2 21)).1 := g1
    rw [← g1']
    exact g5
  · intro h ⟨g, b⟩ ⟨a3, s⟩ hv ⟨r1, r2, r3, r4⟩
    have r1' : a3 = g := r1
    subst r1'
    have r2' : FM m s := r2
    have r3' : HR s h := r3
    have hmw := FM_mw hW hR r2' r3' (fun j => by have := hv.1 j; omega)
    have hl := hmw.l2 hW
    have hfl := FM_flv (c := c) (sh := c.1 2) (h := h) r2'
    obtain ⟨v1, v2, v3⟩ := flv_f c (c.1 2) h s
    have hrl : HR (flv c (c.1 2) h s) h := fun j hj => by rw [v2 17 (by omega)]; exact r3' j hj
    have nxt : ∀ y : SS, FM m y → HR y h → ∃ y2, fX7_nextHold y (nI B) = some (if (nx1 (bt (c.1 2)) (vE c) B (vn c) h).1 = true then 1 else 0, y2) ∧ y2.1 = y.1 ∧ (∀ j, j ≠ 17 → y2.2 j = y.2 j) ∧ HR y2 (nx1 (bt (c.1 2)) (vE c) B (vn c) h).2 := fun y hy hr => next_m n3 e2 hB (by rw [hy.1, hR.1]; exact n1) (by rw [hy.1]; exact hR.2.1) (by rw [hy.1, hR.2.2.2.2.1]; exact e1) hr hv.1
    have fin : ∀ (x : Int32) (y2 : SS) (j : Nat), (fX7_bestBy_L10 (nI B) cnt (j + 1) x (if (nx1 (bt (c.1 2)) (vE c) B (vn c) h).1 = true then 1 else 0) y2) = if (nx1 (bt (c.1 2)) (vE c) B (vn c) h).1 = true then fX7_bestBy_L10 (nI B) cnt (j + 1) x 1 y2 else some (x, y2) := by
      intro x y2 j
      by_cases e : (nx1 (bt (c.1 2)) (vE c) B (vn c) h).1 = true
      · rw [if_pos e, if_pos e]
      · rw [if_neg e, if_neg e, fX7_bestBy_L10, if_pos rfl]
    have turn : ∀ j, fX7_bestBy_L10 (nI B) cnt (j + 1 + 1) a3 1 s = if ghH c cnt h ≤ a3 then Option.bind (fX7_nextHold (flv c (c.1 2) h s) (nI B)) (fun q7 => fX7_bestBy_L10 (nI B) cnt (j + 1) a3 q7.1 q7.2) else Option.bind (fX7_nextHold (kpH (flv c (c.1 2) h s) h) (nI B)) (fun q7 => fX7_bestBy_L10 (nI B) cnt (j + 1) (ghH c cnt h) q7.1 q7.2) := by
      intro j
      rw [fX7_bestBy_L10, if_neg (show ¬ (1 : Int32) = 0 by decide), now_m hW hmw, Option.bind_some]
      rw [good_ms hl.2.1 hl.2.2.1, Option.bind_some, jn_e, gd_bs]
      rw [keep_m hrl, Option.bind_some]
      rfl
    by_cases hc : ghH c cnt h ≤ a3
    · obtain ⟨y2, y3, y4, y5, y6⟩ := nxt _ hfl hrl
      refine ⟨(a3, y2), ⟨?_, ⟨by rw [y4]; exact hfl.1, fun j a b d => by rw [y5 j a]; exact hfl.2 j a b d⟩, y6, fun j hj => ?_⟩, fun j => ?_⟩
      · unfold FB; rw [if_pos hc]
      · unfold FB
        rw [if_pos hc]
        show y2.2 21 j = b j
        rw [y5 21 (by omega), v2 21 (by omega)]
        exact r4 j hj
      · show fX7_bestBy_L10 (nI B) cnt (j + 1 + 1) a3 1 s = _
        rw [turn, if_pos hc, y3, Option.bind_some]
        exact fin a3 y2 j
    · obtain ⟨k1, k2, k3⟩ := kpH_f (flv c (c.1 2) h s) h
      have hkf : FM m (kpH (flv c (c.1 2) h s) h) := ⟨by rw [k1]; exact hfl.1, fun j a b d => by rw [k2 j d]; exact hfl.2 j a b d⟩
      obtain ⟨y2, y3, y4, y5, y6⟩ := nxt _ hkf (fun j hj => by rw [k2 17 (by omega)]; exact hrl j hj)
      refine ⟨(ghH c cnt h, y2), ⟨?_, ⟨by rw [y4]; exact hkf.1, fun j a b d => by rw [y5 j a]; exact hkf.2 j a b d⟩, y6, fun j hj => ?_⟩, fun j => ?_⟩
      · unfold FB; rw [if_neg hc]
      · unfold FB
        rw [if_neg hc]
        show y2.2 21 j = nI (h j)
        rw [y5 21 (by omega)]
        exact k3 j hj
      · show fX7_bestBy_L10 (nI B) cnt (j + 1 + 1) a3 1 s = _
        rw [turn, if_neg hc, y3, Option.bind_some]
        exact fin (ghH c cnt h) y2 j
  · have := tT_le ⟨vn c, by omega⟩ ⟨B, by omega⟩
    exact Nat.le_trans this (by unfold fu; decide)
