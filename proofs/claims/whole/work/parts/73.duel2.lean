/-! rival: one row of delays settled -/
theorem jn_ite {α β : Type} {C : Prop} [Decidable C] (B : α → β) (a b : α) : jn B (fun j => if C then j a else j b) = B (if C then a else b) := by
  unfold jn
  split <;> rfl
def QC (c z : SS) : Prop := (∀ k, k ≠ 9 → k ≠ 10 → k ≠ 11 → z.1 k = c.1 k) ∧ (∀ j, j ≤ 7 → z.2 j = c.2 j) ∧ (∀ p, p < 8 → z.2 8 p = ndv c (bt (c.1 2)) p) ∧ (∀ a, a < 6 → (z.2 17 a).toInt ≤ 99) ∧ z.2 20 = c.2 20
theorem otS_sm (c : SS) (r : Nat → Bool) : otS c r = iI (sm 8 (fun p => if r p then (c.2 6 p).toInt else 0)) := by
  unfold otS
  have key : ∀ n, lp n (fun p s => s + (if r p then c.2 6 p else 0)) 0 = iI (sm n (fun p => if r p then (c.2 6 p).toInt else 0)) := by
    intro n
    induction n with
    | zero => rfl
    | succ n ih =>
      rw [lp_s, ih, sm_s, ← iI_add]
      congr 1
      cases r n with
      | true => exact iI_of rfl
      | false => rfl
  exact key 8
theorem rv_here {c z : SS} (hW : WOK c) (hz : QC c z) {D : Nat → Nat} (hD : ∀ s, s < vn c → z.2 17 s = nI (D s) ∧ D s ≤ 99) : ∃ q1, fX4_ridersBy_24 z = some q1 ∧ fX5_goodOf z q1 = some (iI (heD c D).1) ∧ fX5_othersOf z q1 = some (iI (heD c D).2) := by
  obtain ⟨h1, h2, h3, h4, h5⟩ := hz
  have hl := rv_late hW (bt (c.1 2)) (s := z) (h2 2 (by omega)) h3 D (fun p hp => by
    obtain ⟨⟨g1, g2, g3⟩, -⟩ := hW.2.2.2.2.2.2.2.2 p hp
    exact ⟨_, rfl, h4 _ g2, fun hb => hD _ (g3 hb)⟩) 0 (by omega)
  refine ⟨bs (rD c D), ?_, ?_, ?_⟩
  · unfold fX4_ridersBy_24
    rw [show fX4_ridersLate_24 z 0 = _ from hl]
    rfl
  · rw [good_cs (c := c) (h1 5 (by omega) (by omega) (by omega)) (h2 4 (by omega)) (h2 5 (by omega)), gd_bs, gdS_sm]
    rfl
  · rw [others_cs (c := c) (h2 6 (by omega)), ot_bs, otS_sm]
    rfl
theorem rv_can {c : SS} (r : Nat) (D : Nat → Nat) {can : Nat → Bool} (hc : ∀ s, can s = (decide (0 < r) && cn2 c D s)) : gV c r D = ((tk true (fm true (fun s => (gV c (r - 1) (up D s)).2) can (vn c)) (tk false (fm false (fun s => (gV c (r - 1) (up D s)).1) can (vn c)) (heD c D)).1).1, (tk false (fm false (fun s => (gV c (r - 1) (up D s)).1) can (vn c)) (tk true (fm true (fun s => (gV c (r - 1) (up D s)).2) can (vn c)) (heD c D)).1).1) ∧ gF c r D = (tk true (fm true (fun s => (gV c (r - 1) (up D s)).2) can (vn c)) (tk false (fm false (fun s => (gV c (r - 1) (up D s)).1) can (vn c)) (heD c D)).1).2 := by
  cases r with
  | zero =>
    have h0 : ∀ s, s < vn c → can s = false := fun s _ => by rw [hc]; rfl
    rw [fm_no _ h0, fm_no _ h0]
    exact ⟨rfl, rfl⟩
  | succ r =>
    have h0 : can = cn2 c D := by
      funext s
      rw [hc, decide_eq_true (by omega), Bool.true_and]
    rw [h0, gV, gF]
    exact ⟨rfl, rfl⟩
theorem rv_settle {c z : SS} (hW : WOK c) (hz : QC c z) {D : Nat → Nat} {r R : Nat} {nx : Nat → Nat} {can : Nat → Bool} (hR : R < 462) (hD : ∀ s, s < vn c → z.2 17 s = nI (D s) ∧ D s ≤ 99) (hc : ∀ s, can s = (decide (0 < r) && cn2 c D s)) (z18 : ∀ s, s < vn c → z.2 18 s = if can s = true then nI (nx s) else -6) (hnx : ∀ s, s < vn c → can s = true → nx s < 462 ∧ z.2 15 (nx s) = iI (rv_pk (gV c (r - 1) (up D s)).1) ∧ z.2 16 (nx s) = iI (rv_pk (gV c (r - 1) (up D s)).2)) :
    ∃ y, fX0_settle z (nI R) = some y ∧ (∀ k, k ≠ 9 → k ≠ 10 → k ≠ 11 → y.1 k = z.1 k) ∧ (∀ j, j ≠ 15 → j ≠ 16 → y.2 j = z.2 j) ∧ (∀ i, y.2 15 i = if i = R then iI (rv_pk (gV c r D).1) else z.2 15 i) ∧ (∀ i, y.2 16 i = if i = R then iI (rv_pk (gV c r D).2) else z.2 16 i) ∧ y.1 9 = rv_cF (gF c r D) := by
  obtain ⟨⟨n1, n2, n3⟩, -⟩ := id hW
  obtain ⟨q1, a1, a2, a3⟩ := rv_here hW hz hD
  have z1 : z.1 1 = nI (vn c) := by rw [hz.1 1 (by omega) (by omega) (by omega)]; exact n1
  obtain ⟨y4, b1, b2, b3, b4, b5⟩ := rv_move (z := z) (n := vn c) (g := false) (v := fun s => (gV c (r - 1) (up D s)).1) (can := can) (nx := nx) n3 z1 z18 (fun s hs h => (hnx s hs h).1) (fun s hs h => (hnx s hs h).2.1) (fun s => (gV_bd hW _ _).1)
  obtain ⟨y5, c1, c2, c3, c4, c5⟩ := rv_move (z := y4) (n := vn c) (g := true) (v := fun s => (gV c (r - 1) (up D s)).2) (can := can) (nx := nx) n3 (by rw [b3 1 (by omega) (by omega)]; exact z1) (by rw [b2]; exact z18) (fun s hs h => (hnx s hs h).1) (fun s hs h => by rw [b2]; exact (hnx s hs h).2.2) (fun s => (gV_bd hW _ _).2)
  obtain ⟨e1, e2⟩ := rv_can (c := c) r D hc
  have hhe := heD_bd hW D
  have hpk : ((((iI (heD c D).1 + (500 : Int32)) * (1000 : Int32)) + iI (heD c D).2) + (500 : Int32)) = iI (rv_pk (heD c D)) := by
    rw [show (500 : Int32) = iI 500 from rfl, show (1000 : Int32) = iI 1000 from rfl, iI_add, iI_mul, iI_add, iI_add]
    rfl
  unfold fX0_settle
  rw [a1, Option.bind_some, a2, Option.bind_some, a3, Option.bind_some, show fX0_findMove z 0 = _ from b1, Option.bind_some, show fX0_findMove y4 1 = _ from c1, Option.bind_some, hpk, c4, c5, b5, nI_clamp (by omega)]
  rw [e1, e2]
  by_cases hany : ∃ s, s < vn c ∧ can s = true
  · obtain ⟨qr, hqr⟩ := fm_some (g := false) (v := fun s => (gV c (r - 1) (up D s)).1) (vn c) hany
    obtain ⟨qg, hqg⟩ := fm_some (g := true) (v := fun s => (gV c (r - 1) (up D s)).2) (vn c) hany
    obtain ⟨r1, r2⟩ := fm_in (Q := PB) (fun s => (gV_bd hW _ _).1) (vn c) qr hqr
    obtain ⟨g1, g2⟩ := fm_in (Q := PB) (fun s => (gV_bd hW _ _).2) (vn c) qg hqg
    rw [hqr, hqg]
    have hP1 : PB (tk false (some qr) (heD c D)).1 := by
      rw [tk_s]
      by_cases hk : kk false (heD c D) < kk false qr.2
      · rw [if_pos hk]; exact r1
      · rw [if_neg hk]; exact hhe
    have hP0 : PB (tk true (some qg) (heD c D)).1 := by
      rw [tk_s]
      by_cases hk : kk true (heD c D) < kk true qg.2
      · rw [if_pos hk]; exact g1
      · rw [if_neg hk]; exact hhe
    have t1 : (if fX0_better 0 (rv_cO (some qr)) (iI (rv_pk (heD c D))) = 0 then iI (rv_pk (heD c D)) else rv_cO (some qr)) = iI (rv_pk (tk false (some qr) (heD c D)).1) := rv_tk (g := false) r1 hhe
    have t2 : (if fX0_better 1 (rv_cO (some qg)) (iI (rv_pk (heD c D))) = 0 then iI (rv_pk (heD c D)) else rv_cO (some qg)) = iI (rv_pk (tk true (some qg) (heD c D)).1) := rv_tk (g := true) g1 hhe
    have t3 : (if fX0_better 0 (rv_cO (some qr)) (iI (rv_pk (tk true (some qg) (heD c D)).1)) = 0 then iI (rv_pk (tk true (some qg) (heD c D)).1) else rv_cO (some qr)) = iI (rv_pk (tk false (some qr) (tk true (some qg) (heD c D)).1).1) := rv_tk (g := false) r1 hP0
    have t4 := rv_better (g := true) g1 hP1
    rw [if_neg (show ¬ rv_cS (some qg) = -6 from rv_ne6 (by omega)), jn_ite, t1, jn_ite, t2, jn_ite, t3, ckb_n hR (by decide), ckb_n hR (by decide)]
    generalize (tk false (some qr) (heD c D)).1 = P1 at hP1 t4
    generalize (tk false (some qr) (tk true (some qg) (heD c D)).1).1 = N1
    by_cases hk : kk true P1 < kk true qg.2
    · rw [if_neg (show ¬ fX0_better 1 (rv_cO (some qg)) (iI (rv_pk P1)) = 0 from fun w => by have := t4.mp w; omega), ckb_n hR (by decide), tk_s, if_pos hk]
      refine ⟨_, rfl, fun k h9 h10 h11 => ?_, fun j h15 h16 => ?_, fun i => ?_, fun i => ?_, ?_⟩
      · rw [sF_1, if_neg h9, sA_1, sA_1, sA_1, sF_1, if_neg h9, c3 k h10 h11, b3 k h10 h11]
      · rw [sF_2, sA_2, if_neg h15, sA_2, if_neg h15, sA_2, if_neg h16, sF_2, c2, b2]
      · rw [sF_2, sA_2, if_pos rfl, upd_e, sA_2, if_pos rfl, upd_e, sA_2, if_neg (show ¬ (15 : Nat) = 16 by omega), sF_2, c2, b2]
        by_cases e : i = R
        · rw [if_pos e, if_pos e]; rfl
        · rw [if_neg e, if_neg e, if_neg e]
      · rw [sF_2, sA_2, if_neg (by omega), sA_2, if_neg (by omega), sA_2, if_pos rfl, upd_e, sF_2, c2, b2]
      · rw [sF_1, if_pos rfl]; rfl
    · rw [if_pos (show fX0_better 1 (rv_cO (some qg)) (iI (rv_pk P1)) = 0 from t4.mpr (by omega)), tk_s, if_neg hk]
      refine ⟨_, rfl, fun k h9 h10 h11 => ?_, fun j h15 h16 => ?_, fun i => ?_, fun i => ?_, ?_⟩
      · rw [sA_1, sA_1, sF_1, if_neg h9, c3 k h10 h11, b3 k h10 h11]
      · rw [sA_2, if_neg h15, sA_2, if_neg h16, sF_2, c2, b2]
      · rw [sA_2, if_pos rfl, upd_e, sA_2, if_neg (show ¬ (15 : Nat) = 16 by omega), sF_2, c2, b2]
      · rw [sA_2, if_neg (by omega), sA_2, if_pos rfl, upd_e, sF_2, c2, b2]
      · rw [sA_1, sA_1, sF_1, if_pos rfl]; rfl
  · have h0 : ∀ s, s < vn c → can s = false := fun s hs => by
      cases e : can s with
      | false => rfl
      | true => exact absurd ⟨s, hs, e⟩ hany
    rw [fm_no _ h0, fm_no _ h0, tk_n, tk_n, if_pos (show rv_cS none = -6 from rfl), ckb_n hR (by decide), ckb_n hR (by decide), tk_n, tk_n]
    refine ⟨_, rfl, fun k h9 h10 h11 => ?_, fun j h15 h16 => ?_, fun i => ?_, fun i => ?_, ?_⟩
    · rw [sA_1, sA_1, sF_1, if_neg h9, c3 k h10 h11, b3 k h10 h11]
    · rw [sA_2, if_neg h16, sA_2, if_neg h15, sF_2, c2, b2]
    · rw [sA_2, if_neg (by omega), sA_2, if_pos rfl, upd_e, sF_2, c2, b2]
    · rw [sA_2, if_pos rfl, upd_e, sA_2, if_neg (show ¬ (16 : Nat) = 15 by omega), sF_2, c2, b2]
    · rw [sA_1, sA_1, sF_1, if_pos rfl]; rfl
theorem rv_tab : ∀ a : Fin 12, ∀ k : Fin 7, tg_chf (a.val * 7 + k.val) = nI (ch a.val k.val) := by decide +kernel
theorem nI_m7 (s : Nat) : nI s * (7 : Int32) = nI (s * 7) := (Int32.ofNat_mul s 7).symm
theorem rv_ways {a k : Nat} (ha : a ≤ 11) (hk : k ≤ 6) : fX0_ways (nI a) (nI k) = some (nI (ch a k)) := by
  have w1 : ¬ fX6_within (nI a) 0 11 = 0 := by
    rw [win, ite0, nI_ti (by omega)]
    exact fun q => q ⟨by show (0 : Int) ≤ _; omega, by show _ ≤ (11 : Int); omega⟩
  have w2 : ¬ fX6_within (nI k) 0 6 = 0 := by
    rw [win, ite0, nI_ti (by omega)]
    exact fun q => q ⟨by show (0 : Int) ≤ _; omega, by show _ ≤ (6 : Int); omega⟩
  unfold fX0_ways
  simp only [jn_e]
  rw [if_neg w1, if_neg w2, if_neg (show ¬ (1 : Int32) = 0 by decide), nI_m7, nI_add, ald_n (by omega) (by decide)]
  rw [rv_tab ⟨a, by omega⟩ ⟨k, by omega⟩]
theorem rv_462 : ∀ n : Fin 7, ∀ B : Fin 6, ch (B.val + n.val) n.val ≤ 462 := by decide +kernel
theorem up_le {D : Nat → Nat} {n B s : Nat} (hm : MN n D) (hB : D (n - 1) < B) (t : Nat) (ht : t < n) : up D s t ≤ B := by
  have := hm t (n - 1) (by omega) (by omega)
  unfold up
  split <;> omega
theorem up_mn {D : Nat → Nat} {n s : Nat} (hm : MN n D) : MN n (up D s) := by
  intro a b hab hb
  have := hm a b hab hb
  unfold up
  by_cases h1 : s ≤ a
  · rw [if_pos h1, if_pos (by omega)]; omega
  · rw [if_neg h1]
    split <;> omega
theorem rv_next {c z : SS} (hW : WOK c) (hz : QC c z) {D : Nat → Nat} (hD : ∀ s, s < vn c → z.2 17 s = nI (D s)) (hm : MN (vn c) D) (hB : ∀ s, s < vn c → D s ≤ vB c) (hB5 : vB c ≤ 5) : ∃ y, fX0_findNext z (nI (rk D (vn c))) = some y ∧ y.1 = z.1 ∧ (∀ j, j ≠ 18 → y.2 j = z.2 j) ∧ ∀ s, s < vn c → y.2 18 s = if (decide (D (vn c - 1) < vB c) && cn2 c D s) = true then nI (rk (up D s) (vn c)) else -6 := by
  obtain ⟨⟨n1, n2, n3⟩, -, ⟨b1, b2⟩, ⟨e1, e2⟩, -⟩ := id hW
  obtain ⟨h1, h2, h3, h4, h5⟩ := hz
  have z1 : z.1 1 = nI (vn c) := by rw [h1 1 (by omega) (by omega) (by omega)]; exact n1
  have z3 : z.1 3 = nI (vB c) := by rw [h1 3 (by omega) (by omega) (by omega)]; exact b1
  have z4 : z.1 4 = nI (vE c) := by rw [h1 4 (by omega) (by omega) (by omega)]; exact e1
  have z2 : z.1 2 = c.1 2 := h1 2 (by omega) (by omega) (by omega)
  generalize hn : vn c = n at *
  have e0 : nI n - 1 = nI (n - 1) := by rw [show n = n - 1 + 1 by omega]; exact nI_pred _
  unfold fX0_findNext
  rw [z1, e0, ald_n (by omega) (by decide), hD (n - 1) (by omega), z3, jn_ite]
  generalize hf : (if nI (D (n - 1)) < nI (vB c) then (0 : Int32) else 1) = full
  have hful : full = 0 ↔ D (n - 1) < vB c := by
    rw [← hf]
    have hl := hB (n - 1) (by omega)
    by_cases q : D (n - 1) < vB c
    · rw [if_pos (nI_lt q (by omega))]; exact ⟨fun _ => q, fun _ => rfl⟩
    · rw [if_neg (fun w => q ((nI_ltI (by omega) (by omega)).mp w))]; exact ⟨fun w => absurd w (by decide), fun w => absurd w q⟩
  have hh := for_inv (fun f i (q : SS) => fX0_findNext_L43 full f (nI (rk (up D (n - i)) n)) (nI (n - i) - 1) q) n some (fun i q => q.1 = z.1 ∧ (∀ j, j ≠ 18 → q.2 j = z.2 j) ∧ ∀ s, n - i ≤ s → s < n → q.2 18 s = if (decide (D (n - 1) < vB c) && cn2 c D s) = true then nI (rk (up D s) n) else -6) ?_ ?_ fu z (fu_big (by omega)) ⟨rfl, fun _ _ => rfl, fun s a b => absurd a (by omega)⟩
  · obtain ⟨y, ⟨g1, g2, g3⟩, e⟩ := hh
    refine ⟨y, ?_, g1, g2, fun s hs => g3 s (by omega) hs⟩
    rw [Nat.sub_zero, rk_upn, e0] at e
    exact e
  · intro f i q hi ⟨g1, g2, g3⟩
    obtain ⟨s, hs⟩ : ∃ s, s = n - (i + 1) := ⟨_, rfl⟩
    have hs1 : n - i = s + 1 := by omega
    have hs6 : s < 6 := by omega
    show ∃ q2, _ ∧ fX0_findNext_L43 full (f + 1) (nI (rk (up D (n - i)) n)) (nI (n - i) - 1) q = fX0_findNext_L43 full f (nI (rk (up D (n - (i + 1))) n)) (nI (n - (i + 1)) - 1) q2
    rw [← hs, hs1, nI_pred]
    rw [hs1] at g3
    have hDs := hB s (by omega)
    have hmay : fX5_mayHold q (nI s) (nI (vB c)) = nI (mr (bt (c.1 2)) (vE c) (vB c) 0 s) := by
      have := may_n (z := q) (sh := c.1 2) (s := s) (u := 0) (B := vB c) (E := vE c) hs6 (by omega) (by omega) e2 (by rw [g1]; exact z2) (by rw [g1]; exact z4)
      rw [show nI (vB c) - nI 0 = nI (vB c) from Int32.sub_zero _] at this
      exact this
    have hrow : ∀ t, t < n → q.2 17 t = nI (D t) := fun t ht => by rw [g2 17 (by omega)]; exact hD t ht
    have hdd : dd D s ≤ D s := by unfold dd; omega
    have hmrl := mr_le (bt (c.1 2)) (vE c) (vB c) 0 s
    refine ⟨sA q 18 s (if (decide (D (n - 1) < vB c) && cn2 c D s) = true then nI (rk (up D s) n) else -6), ⟨g1, fun j hj => by rw [sA_2, if_neg hj]; exact g2 j hj, fun t ht1 ht2 => ?_⟩, ?_⟩
    · rw [sA_2, if_pos rfl, upd_e]
      by_cases e : t = s
      · rw [if_pos e, e]
      · rw [if_neg e]; exact g3 t (by omega) ht2
    · rw [fX0_findNext_L43, if_neg (nI_pos (by omega)), ald_n hs6 (by decide), hrow s (by omega), nI_add, rv_ways (by omega) (by omega), Option.bind_some, nI_add, ← rk_up (show s < n by omega), g1, z3, hmay, nI_clamp (by omega), Int32.sub_eq_add_neg]
      have cont : ∀ x6 : Int32, x6 = nI (dd D s) → (jn (fun (x7 : Int32) => jn (fun (x8 : Int32) => ckb 6 (nI s) (fX0_findNext_L43 full f (nI (rk (up D s) n)) (nI s + (-1 : Int32)) (sA q 18 s x8))) (fun j155 => jn (fun (_ : Unit) => j155 (-6 : Int32)) (fun j153 => if x7 = (0 : Int32) then j153 () else if (462 : Int32) ≤ nI (rk (up D s) n) then j153 () else j155 (nI (rk (up D s) n))))) (fun j129 => jn (fun (_ : Unit) => j129 (0 : Int32)) (fun j128 => if full = (0 : Int32) then if nI (mr (bt (c.1 2)) (vE c) (vB c) 0 s) ≤ x6 then j128 () else j129 (1 : Int32) else j128 ()))) = fX0_findNext_L43 full f (nI (rk (up D s) n)) (nI s + (-1 : Int32)) (sA q 18 s (if (decide (D (n - 1) < vB c) && cn2 c D s) = true then nI (rk (up D s) n) else -6)) := by
        intro x6 hx6
        rw [hx6]
        simp only [jn_e, ckb_n hs6 (show 6 < 2 ^ 31 by decide)]
        by_cases q1 : D (n - 1) < vB c
        · rw [if_pos (hful.mpr q1), decide_eq_true q1, Bool.true_and]
          have hD1 := hm s (n - 1) (by omega) (by omega)
          have hcan : (nI (mr (bt (c.1 2)) (vE c) (vB c) 0 s) ≤ nI (dd D s)) ↔ ¬ cn2 c D s = true := by
            rw [nI_leI (by omega) (by omega)]
            unfold cn2 mr
            cases hcl : bt (c.1 2) s with
            | true => simp
            | false =>
              simp only [Bool.false_eq_true, if_false, Bool.not_false, Bool.true_and, decide_eq_true_eq, Nat.sub_zero]
              omega
          by_cases q2 : cn2 c D s = true
          · rw [if_neg (fun w => hcan.mp w q2), if_neg (show ¬ (1 : Int32) = 0 by decide), if_pos q2]
            have hlt : rk (up D s) n < 462 := Nat.lt_of_lt_of_le (rk_lt (D := up D s) (d := vB c) (n := n) (fun t ht => up_le hm q1 t ht)) (rv_462 ⟨n, by omega⟩ ⟨vB c, by omega⟩)
            rw [if_neg (n462 hlt)]
          · rw [if_pos (hcan.mpr q2), if_neg q2, if_pos trivial]
        · rw [if_neg (fun w => q1 (hful.mp w)), decide_eq_false q1, Bool.false_and, if_neg (show ¬ false = true by decide), if_pos trivial]
      by_cases es : s = 0
      · subst es
        simp only [jn_e (β := Option SS)] at cont ⊢
        rw [if_pos (show nI 0 = (0 : Int32) from rfl), show ald 6 (q.2 17) (0 : Int32) = ald 6 (q.2 17) (nI 0) from rfl, ald_n (by omega) (by decide), hrow 0 (by omega)]
        exact cont (nI (D 0)) rfl
      · have e5 : nI s - 1 = nI (s - 1) := by rw [show s = s - 1 + 1 by omega]; exact nI_pred _
        have hle := hm (s - 1) s (by omega) (by omega)
        have e6 : nI (D s) - nI (D (s - 1)) = nI (dd D s) := by
          unfold dd
          rw [if_neg es]
          have := nI_subn (D s - D (s - 1)) (D (s - 1))
          rw [Nat.sub_add_cancel hle] at this
          exact this
        simp only [jn_e (β := Option SS)] at cont ⊢
        rw [if_neg (nI_ne0 (by omega) (by omega)), ald_n hs6 (by decide), hrow s (by omega), ← Int32.sub_eq_add_neg, e5, ald_n (by omega) (by decide), hrow (s - 1) (by omega), e6]
        rw [← show nI s + (-1 : Int32) = nI (s - 1) by rw [← Int32.sub_eq_add_neg]; exact e5]
        exact cont (nI (dd D s)) rfl
  · intro f q hq
    show fX0_findNext_L43 full (f + 1) _ (nI (n - n) - 1) q = some q
    rw [Nat.sub_self, fX0_findNext_L43, if_pos (show nI 0 - 1 < (0 : Int32) by decide)]
