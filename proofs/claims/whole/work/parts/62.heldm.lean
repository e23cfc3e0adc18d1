/-! the reference's held -/
theorem seen_m {c m z : SS} (hW : WOK c) (hR : WR c m) (hf : FM m z) (f : Nat → Bool) : ∃ r, fX7_isSeenSo z (bs f) = some r ∧ (r = 0 ∨ r = 1) ∧ (r = 1 ↔ ∀ p, p < 8 → bad1 (c.1 7) (c.1 8) p (f p) = false) := by
  obtain ⟨s1, s2⟩ := hR.2.2.2.2.2.2.2.2
  obtain ⟨w6, w6'⟩ := hW.2.2.2.2.2.1
  have z12 : z.2 12 = m.2 12 := hf.2 12 (by omega) (by omega) (by omega)
  have z13 : z.2 13 = m.2 13 := hf.2 13 (by omega) (by omega) (by omega)
  have z14 : z.1 14 = nI (vS c) := by rw [hf.1, hR.2.2.2.2.2.1]; exact w6
  have hh := for_inv (fun n i (q : Int32) => fX7_isSeenSo_L4 z (bs f) n q (nI i)) (vS c) some (fun i q => q = if lp i (fun k a => a && decide (((bs f >>> (m.2 12 k &&& 31)) &&& 1) = m.2 13 k)) true = true then 1 else 0) ?_ ?_ fu 1 (fu_big (by omega)) rfl
  · obtain ⟨r, r1, r2⟩ := hh
    refine ⟨r, r2, ?_, ?_⟩
    · rw [r1]; split
      · exact Or.inr rfl
      · exact Or.inl rfl
    · have e : r = 1 ↔ lp (vS c) (fun k a => a && decide (((bs f >>> (m.2 12 k &&& 31)) &&& 1) = m.2 13 k)) true = true := by
        rw [r1]
        split
        · rename_i q; exact ⟨fun _ => q, fun _ => rfl⟩
        · rename_i q; exact ⟨fun z => absurd z (by decide), fun z => absurd z q⟩
      rw [e, lp_and]
      have bit : ∀ p, p < 8 → ((bs f >>> (nI p &&& 31)) &&& 1) = if f p then 1 else 0 := by
        intro p hp
        rw [tb_and1 _ (by omega), bs_bt, decide_eq_true hp, Bool.true_and]
      constructor
      · intro h p hp
        obtain ⟨t1, t2, -⟩ := s2 p hp
        unfold bad1
        cases e2 : f p with
        | true =>
          show bt (c.1 8) p = false
          cases e3 : bt (c.1 8) p with
          | false => rfl
          | true =>
            obtain ⟨k, k1, k2, k3⟩ := t2.mp e3
            have := of_decide_eq_true (h k k1)
            rw [k2, k3, bit p hp, e2] at this
            exact absurd this (by decide)
        | false =>
          show bt (c.1 7) p = false
          cases e3 : bt (c.1 7) p with
          | false => rfl
          | true =>
            obtain ⟨k, k1, k2, k3⟩ := t1.mp e3
            have := of_decide_eq_true (h k k1)
            rw [k2, k3, bit p hp, e2] at this
            exact absurd this (by decide)
      · intro h k hk
        obtain ⟨p, p1, p2, p3⟩ := s1 k hk
        obtain ⟨t1, t2, -⟩ := s2 p p1
        have hp := h p p1
        apply decide_eq_true
        rw [p2, bit p p1]
        unfold bad1 at hp
        cases e2 : f p with
        | true =>
          rw [e2] at hp
          have hp' : bt (c.1 8) p = false := hp
          rcases p3 with q | q
          · have := t2.mpr ⟨k, hk, p2, q⟩
            rw [hp'] at this; cases this
          · rw [q]; rfl
        | false =>
          rw [e2] at hp
          have hp' : bt (c.1 7) p = false := hp
          rcases p3 with q | q
          · rw [q]; rfl
          · have := t1.mpr ⟨k, hk, p2, q⟩
            rw [hp'] at this; cases this
  · intro n i q hi hq
    show ∃ q2, _ ∧ fX7_isSeenSo_L4 z (bs f) (n + 1) q (nI i) = fX7_isSeenSo_L4 z (bs f) n q2 (nI (i + 1))
    rw [fX7_isSeenSo_L4, z14, if_neg (nI_ge hi (by omega)), inc_n, hq, z12, z13]
    simp only [jn_e, ald_n (show i < 8 by omega) (show 8 < 2 ^ 31 by decide)]
    cases e : lp i (fun k a => a && decide (((bs f >>> (m.2 12 k &&& 31)) &&& 1) = m.2 13 k)) true with
    | false =>
      refine ⟨0, ?_, ?_⟩
      · rw [lp_s, e]; rfl
      · rw [if_neg (show ¬ false = true by decide), if_pos rfl]
    | true =>
      rw [if_pos rfl, if_neg (show ¬ (1 : Int32) = 0 by decide)]
      by_cases hc : ((bs f >>> (m.2 12 i &&& 31)) &&& 1) = m.2 13 i
      · refine ⟨1, ?_, by rw [if_pos hc]⟩
        rw [lp_s, e, decide_eq_true hc]; rfl
      · refine ⟨0, ?_, by rw [if_neg hc]⟩
        rw [lp_s, e, decide_eq_false hc]; rfl
  · intro n q hq
    show fX7_isSeenSo_L4 z (bs f) (n + 1) q (nI (vS c)) = some q
    rw [fX7_isSeenSo_L4, z14, if_pos (Int32.le_refl _)]
    unfold gz
    rw [if_pos]
    rw [hq]
    split
    · exact Or.inr rfl
    · exact Or.inl rfl
theorem held_m {c m : SS} (hW : WOK c) (hR : WR c m) {at_ : Nat} (ha : at_ < 6) (p1 p2 : Int32) (K : Int32 → Int32 → Int32 → Int32 → SS → Option (Int32 × SS)) : ∃ z2, fX7_held_L60 K p1 p2 (nI at_) fu 0 1000000 1000000 (-6) 1 (noH m) = K (hvV c at_).1 (hvV c at_).2.1 (hvV c at_).2.2.1 (hvV c at_).2.2.2 z2 ∧ FM m z2 := by
  obtain ⟨⟨n1, n2, n3⟩, -, ⟨b1, b2⟩, ⟨e1, e2⟩, -⟩ := id hW
  obtain ⟨q1, q2, q3⟩ := noH_f m
  have hh := enum_all (F := FH c at_) (cl := bt (c.1 2)) (E := vE c) (B := vB c) (n := vn c) (L := fun j (s : QH × SS) => fX7_held_L60 K p1 p2 (nI at_) (j + 1) s.1.1 s.1.2.1 s.1.2.2.1 s.1.2.2.2 1 s.2) (K := fun s => K s.1.1 s.1.2.1 s.1.2.2.1 s.1.2.2.2 s.2) (Rel := fun h a s => s.1 = a ∧ FM m s.2 ∧ HR s.2 h) ?_ (fl := fu - 1) ?_ (0, 1000000, 1000000, -6) ((0, 1000000, 1000000, -6), noH m) ⟨rfl, ⟨q1, fun j a b d => q2 j a⟩, fun j hj => by rw [q3 j hj]; rfl⟩
  · obtain ⟨⟨a, s⟩, ⟨g1, g2, g3⟩, g5⟩ := hh
    refine ⟨s, ?_, g2⟩
    have g1' : a = hvV c at_ := g1
    rw [← g1', show fu = fu - 1 + 1 from rfl]
    exact g5
  · intro h a ⟨a3, s⟩ hv ⟨r1, r2, r3⟩
    have r1' : a3 = a := r1
    subst r1'
    have r2' : FM m s := r2
    have r3' : HR s h := r3
    have hmw := FM_mw hW hR r2' r3' (fun j => by have := hv.1 j; omega)
    have hfl := FM_flv (c := c) (sh := c.1 2) (h := h) r2'
    obtain ⟨v1, v2, v3⟩ := flv_f c (c.1 2) h s
    have hrl : HR (flv c (c.1 2) h s) h := fun j hj => by rw [v2 17 (by omega)]; exact r3' j hj
    have hin : fX7_heldIn (flv c (c.1 2) h s) = some (nI (psm h (vn c))) := heldIn_m n3 (by rw [v1, r2'.1, hR.1]; exact n1) hrl
    obtain ⟨y2, y3, y4, y5, y6⟩ : ∃ y2, fX7_nextHold (flv c (c.1 2) h s) ((flv c (c.1 2) h s).1 10) = some (if (nx1 (bt (c.1 2)) (vE c) (vB c) (vn c) h).1 = true then 1 else 0, y2) ∧ y2.1 = (flv c (c.1 2) h s).1 ∧ (∀ j, j ≠ 17 → y2.2 j = (flv c (c.1 2) h s).2 j) ∧ HR y2 (nx1 (bt (c.1 2)) (vE c) (vB c) (vn c) h).2 := by
      rw [show (flv c (c.1 2) h s).1 10 = nI (vB c) by rw [hfl.1, hR.2.2.2.1]; exact b1]
      exact next_m n3 e2 (by omega) (by rw [hfl.1, hR.1]; exact n1) (by rw [hfl.1]; exact hR.2.1) (by rw [hfl.1, hR.2.2.2.2.1]; exact e1) hrl hv.1
    have fin : ∀ (x : QH) (j : Nat), (fX7_held_L60 K p1 p2 (nI at_) (j + 1) x.1 x.2.1 x.2.2.1 x.2.2.2 (if (nx1 (bt (c.1 2)) (vE c) (vB c) (vn c) h).1 = true then 1 else 0) y2) = if (nx1 (bt (c.1 2)) (vE c) (vB c) (vn c) h).1 = true then fX7_held_L60 K p1 p2 (nI at_) (j + 1) x.1 x.2.1 x.2.2.1 x.2.2.2 1 y2 else K x.1 x.2.1 x.2.2.1 x.2.2.2 y2 := by
      intro x j
      by_cases e : (nx1 (bt (c.1 2)) (vE c) (vB c) (vn c) h).1 = true
      · rw [if_pos e, if_pos e]
      · rw [if_neg e, if_neg e, fX7_held_L60, if_pos rfl]
    refine ⟨(FH c at_ h a3, y2), ⟨rfl, ⟨by rw [y4]; exact hfl.1, fun j a b d => by rw [y5 j a]; exact hfl.2 j a b d⟩, y6⟩, fun j => ?_⟩
    show fX7_held_L60 K p1 p2 (nI at_) (j + 1 + 1) a3.1 a3.2.1 a3.2.2.1 a3.2.2.2 1 s = _
    refine Eq.trans ?_ (fin (FH c at_ h a3) j)
    obtain ⟨r, t1, t2, t3⟩ := seen_m hW hR hfl (rdH c h)
    rw [fX7_held_L60, if_neg (show ¬ (1 : Int32) = 0 by decide), now_m hW hmw, Option.bind_some]
    show Option.bind (fX7_isSeenSo (flv c (c.1 2) h s) (bs (rdH c h))) _ = _
    rw [t1, Option.bind_some]
    simp only [jn_e, hin, Option.bind_some, ald_n ha (show 6 < 2 ^ 31 by decide), hrl at_ ha, y3]
    by_cases hso : soH c (c.1 7) (c.1 8) h = true
    · have hr1 : r = 1 := t3.mpr (soH_i.mp hso)
      rw [hr1, if_neg (show ¬ (1 : Int32) = 0 by decide)]
      unfold FH
      rw [if_pos hso]
      by_cases u1 : a3.2.1 ≤ nI (psm h (vn c))
      · by_cases u2 : a3.2.2.1 ≤ nI (h at_)
        · by_cases u3 : nI (h at_) ≤ a3.2.2.2
          · simp only [u1, u2, u3, if_true]
          · simp only [u1, u2, u3, if_true, if_false]
        · by_cases u3 : nI (h at_) ≤ a3.2.2.2
          · simp only [u1, u2, u3, if_true, if_false]
          · simp only [u1, u2, u3, if_true, if_false]
      · by_cases u2 : a3.2.2.1 ≤ nI (h at_)
        · by_cases u3 : nI (h at_) ≤ a3.2.2.2
          · simp only [u1, u2, u3, if_true, if_false]
          · simp only [u1, u2, u3, if_true, if_false]
        · by_cases u3 : nI (h at_) ≤ a3.2.2.2
          · simp only [u1, u2, u3, if_true, if_false]
          · simp only [u1, u2, u3, if_false]
    · have hr0 : r = 0 := by
        rcases t2 with q | q
        · exact q
        · exact absurd (soH_i.mpr (t3.mp q)) hso
      rw [hr0, if_pos rfl]
      unfold FH
      rw [if_neg hso]
  · have := tT_le ⟨vn c, by omega⟩ ⟨vB c, by omega⟩
    exact Nat.le_trans this (by unfold fu; decide)
