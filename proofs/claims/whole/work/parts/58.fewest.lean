/-! the reference's fewestFor -/
theorem bits0 (x : Int32) : x = 0 ↔ ∀ i, i < 32 → bt x i = false := by
  constructor
  · intro h i _; rw [h, b_0]
  · intro h
    exact b_ext (fun i hi => by rw [h i hi, b_0])
theorem so_bits {ri wa : Int32} (h1 : ∀ i, 8 ≤ i → bt ri i = false) (h2 : ∀ i, 8 ≤ i → bt wa i = false) (f : Nat → Bool) : ((ri &&& (bs f ^^^ (-1 : Int32))) = 0 ∧ (wa &&& bs f) = 0) ↔ ∀ p, p < 8 → bad1 ri wa p (f p) = false := by
  rw [bits0, bits0]
  constructor
  · rintro ⟨a, b⟩ p hp
    have a2 := a p (by omega)
    have b2 := b p (by omega)
    rw [b_and, b_xor, b_m1 p (by omega), bs_bt, decide_eq_true hp] at a2
    rw [b_and, bs_bt, decide_eq_true hp] at b2
    unfold bad1
    cases e : f p with
    | true => rw [e] at b2; simp at b2; simpa using b2
    | false => rw [e] at a2; simp at a2; simpa using a2
  · intro h
    refine ⟨fun i hi => ?_, fun i hi => ?_⟩
    · by_cases h8 : i < 8
      · have := h i h8
        rw [b_and, b_xor, b_m1 i hi, bs_bt, decide_eq_true h8]
        unfold bad1 at this
        cases e : f i with
        | true => simp
        | false => rw [e] at this; simpa using this
      · rw [b_and, h1 i (by omega)]; rfl
    · by_cases h8 : i < 8
      · have := h i h8
        rw [b_and, bs_bt, decide_eq_true h8]
        unfold bad1 at this
        cases e : f i with
        | true => rw [e] at this; simpa using this
        | false => simp
      · rw [b_and, h2 i (by omega)]; rfl
theorem fewest_m {c m z : SS} (hW : WOK c) (hR : WR c m) (hf : FM m z) {ri wa : Int32} (h1 : ∀ i, 8 ≤ i → bt ri i = false) (h2 : ∀ i, 8 ≤ i → bt wa i = false) : ∃ z2, fX7_fewestFor z ri wa = some ((fwV c ri wa (z.2 21)).1, z2) ∧ FM m z2 ∧ ∀ j, j < 6 → z2.2 21 j = (fwV c ri wa (z.2 21)).2 j := by
  obtain ⟨⟨n1, n2, n3⟩, -, ⟨b1, b2⟩, ⟨e1, e2⟩, -⟩ := id hW
  obtain ⟨q1, q2, q3⟩ := noH_f z
  unfold fX7_fewestFor
  rw [noHold_m, Option.bind_some]
  have hh := enum_all (F := FW c ri wa) (cl := bt (c.1 2)) (E := vE c) (B := vB c) (n := vn c) (L := fun j (s : Int32 × SS) => fX7_fewestFor_L10 ri wa (j + 1) s.1 1 s.2) (K := fun s => some (s.1, s.2)) (Rel := fun h a s => s.1 = a.1 ∧ FM m s.2 ∧ HR s.2 h ∧ ∀ j, j < 6 → s.2.2 21 j = a.2 j) ?_ (fl := fu - 1) ?_ (-6, z.2 21) (-6, noH z) ⟨rfl, ⟨by rw [q1]; exact hf.1, fun j a b d => by rw [q2 j a]; exact hf.2 j a b d⟩, fun j hj => by rw [q3 j hj]; rfl, fun j hj => by rw [q2 21 (by omega)]⟩
  · obtain ⟨⟨g, s⟩, ⟨g1, g2, g3, g4⟩, g5⟩ := hh
    refine ⟨s, ?_, g2, g4⟩
    rw [show fu = fu - 1 + 1 from rfl]
    have g1' : g = (fwV c ri wa (z.2 21)).1 := g1
    rw [← g1']
    exact g5
  · intro h ⟨g, b⟩ ⟨a3, s⟩ hv ⟨r1, r2, r3, r4⟩
    have r1' : a3 = g := r1
    subst r1'
    have r2' : FM m s := r2
    have r3' : HR s h := r3
    have hmw := FM_mw hW hR r2' r3' (fun j => by have := hv.1 j; omega)
    have hfl := FM_flv (c := c) (sh := c.1 2) (h := h) r2'
    obtain ⟨v1, v2, v3⟩ := flv_f c (c.1 2) h s
    have hrl : HR (flv c (c.1 2) h s) h := fun j hj => by rw [v2 17 (by omega)]; exact r3' j hj
    have nxt : ∀ y : SS, FM m y → HR y h → ∃ y2, fX7_nextHold y (y.1 10) = some (if (nx1 (bt (c.1 2)) (vE c) (vB c) (vn c) h).1 = true then 1 else 0, y2) ∧ y2.1 = y.1 ∧ (∀ j, j ≠ 17 → y2.2 j = y.2 j) ∧ HR y2 (nx1 (bt (c.1 2)) (vE c) (vB c) (vn c) h).2 := fun y hy hr => by
      rw [show y.1 10 = nI (vB c) by rw [hy.1, hR.2.2.2.1]; exact b1]
      exact next_m n3 e2 (by omega) (by rw [hy.1, hR.1]; exact n1) (by rw [hy.1]; exact hR.2.1) (by rw [hy.1, hR.2.2.2.2.1]; exact e1) hr hv.1
    have fin : ∀ (x : Int32) (y2 : SS) (j : Nat), (fX7_fewestFor_L10 ri wa (j + 1) x (if (nx1 (bt (c.1 2)) (vE c) (vB c) (vn c) h).1 = true then 1 else 0) y2) = if (nx1 (bt (c.1 2)) (vE c) (vB c) (vn c) h).1 = true then fX7_fewestFor_L10 ri wa (j + 1) x 1 y2 else some (x, y2) := by
      intro x y2 j
      by_cases e : (nx1 (bt (c.1 2)) (vE c) (vB c) (vn c) h).1 = true
      · rw [if_pos e, if_pos e]
      · rw [if_neg e, if_neg e, fX7_fewestFor_L10, if_pos rfl]
    have hin : fX7_heldIn (flv c (c.1 2) h s) = some (nI (psm h (vn c))) := heldIn_m n3 (by rw [v1, r2'.1, hR.1]; exact n1) hrl
    have hsb := so_bits h1 h2 (rdH c h)
    have turn : ∀ j, fX7_fewestFor_L10 ri wa (j + 1 + 1) a3 1 s = if soH c ri wa h = true ∧ (a3 < 0 ∨ nI (psm h (vn c)) < a3) then Option.bind (fX7_nextHold (kpH (flv c (c.1 2) h s) h) ((kpH (flv c (c.1 2) h s) h).1 10)) (fun q7 => fX7_fewestFor_L10 ri wa (j + 1) (nI (psm h (vn c))) q7.1 q7.2) else Option.bind (fX7_nextHold (flv c (c.1 2) h s) ((flv c (c.1 2) h s).1 10)) (fun q7 => fX7_fewestFor_L10 ri wa (j + 1) a3 q7.1 q7.2) := by
      intro j
      rw [fX7_fewestFor_L10, if_neg (show ¬ (1 : Int32) = 0 by decide), now_m hW hmw, Option.bind_some]
      simp only [jn_e, hin, keep_m hrl, Option.bind_some]
      show (if (ri &&& (bs (rdH c h) ^^^ (-1 : Int32))) = 0 then if (wa &&& bs (rdH c h)) = 0 then _ else _ else _) = _
      by_cases hso : soH c ri wa h = true
      · obtain ⟨a1, a2⟩ := hsb.mpr (soH_i.mp hso)
        rw [if_pos a1, if_pos a2, if_neg (show ¬ (1 : Int32) = 0 by decide)]
        by_cases hlt : a3 < 0
        · rw [if_pos hlt, if_pos ⟨hso, Or.inl hlt⟩]
        · rw [if_neg hlt]
          by_cases hle : a3 ≤ nI (psm h (vn c))
          · rw [if_pos hle, if_neg (fun q => by
              rcases q.2 with q | q
              · exact hlt q
              · have := i32_le.mp hle; have := i32_lt.mp q; omega)]
          · rw [if_neg hle, if_pos ⟨hso, Or.inr (i32_lt.mpr (by
              have : ¬ a3.toInt ≤ (nI (psm h (vn c))).toInt := fun q => hle (i32_le.mpr q)
              omega))⟩]
      · have hn : ¬ ((ri &&& (bs (rdH c h) ^^^ (-1 : Int32))) = 0 ∧ (wa &&& bs (rdH c h)) = 0) := fun q => hso (soH_i.mpr (hsb.mp q))
        rw [if_neg (show ¬ (soH c ri wa h = true ∧ (a3 < 0 ∨ nI (psm h (vn c)) < a3)) from fun q => hso q.1)]
        by_cases a1 : (ri &&& (bs (rdH c h) ^^^ (-1 : Int32))) = 0
        · rw [if_pos a1, if_neg (fun q => hn ⟨a1, q⟩), if_pos trivial]
        · rw [if_neg a1, if_pos trivial]
    by_cases hc : soH c ri wa h = true ∧ (a3 < 0 ∨ nI (psm h (vn c)) < a3)
    · obtain ⟨k1, k2, k3⟩ := kpH_f (flv c (c.1 2) h s) h
      have hkf : FM m (kpH (flv c (c.1 2) h s) h) := ⟨by rw [k1]; exact hfl.1, fun j a b d => by rw [k2 j d]; exact hfl.2 j a b d⟩
      obtain ⟨y2, y3, y4, y5, y6⟩ := nxt _ hkf (fun j hj => by rw [k2 17 (by omega)]; exact hrl j hj)
      have hF : FW c ri wa h (a3, b) = (nI (psm h (vn c)), fun j => nI (h j)) := by
        unfold FW
        rw [if_pos hc.1, if_pos hc.2]
      refine ⟨(nI (psm h (vn c)), y2), ⟨by rw [hF], ⟨by rw [y4]; exact hkf.1, fun j a b d => by rw [y5 j a]; exact hkf.2 j a b d⟩, y6, fun j hj => ?_⟩, fun j => ?_⟩
      · rw [hF]
        show y2.2 21 j = nI (h j)
        rw [y5 21 (by omega)]
        exact k3 j hj
      · show fX7_fewestFor_L10 ri wa (j + 1 + 1) a3 1 s = _
        rw [turn, if_pos hc, y3, Option.bind_some]
        exact fin _ y2 j
    · obtain ⟨y2, y3, y4, y5, y6⟩ := nxt _ hfl hrl
      have hF : FW c ri wa h (a3, b) = (a3, b) := by
        unfold FW
        by_cases hso : soH c ri wa h = true
        · rw [if_pos hso, if_neg (fun q => hc ⟨hso, q⟩)]
        · rw [if_neg hso]
      refine ⟨(a3, y2), ⟨by rw [hF], ⟨by rw [y4]; exact hfl.1, fun j a b d => by rw [y5 j a]; exact hfl.2 j a b d⟩, y6, fun j hj => ?_⟩, fun j => ?_⟩
      · rw [hF]
        show y2.2 21 j = b j
        rw [y5 21 (by omega), v2 21 (by omega)]
        exact r4 j hj
      · show fX7_fewestFor_L10 ri wa (j + 1 + 1) a3 1 s = _
        rw [turn, if_neg hc, y3, Option.bind_some]
        exact fin _ y2 j
  · have := tT_le ⟨vn c, by omega⟩ ⟨vB c, by omega⟩
    exact Nat.le_trans this (by unfold fu; decide)
