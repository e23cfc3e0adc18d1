def dlS (cl : Nat → Bool) (h : Nat → Nat) : Nat → Nat
  | 0 => 0
  | s + 1 => dlS cl h s + (if cl s then 0 else h s)
/-- the delay at a stop by a hold -/
def dly (cl : Nat → Bool) (h : Nat → Nat) (s : Nat) : Nat := dlS cl h (s + 1)
theorem dlS_le {cl : Nat → Bool} {h : Nat → Nat} {n b : Nat} (hh : ∀ j, j < n → h j ≤ b) : ∀ s, s ≤ n → dlS cl h s ≤ b * s := by
  intro s
  induction s with
  | zero => intro _; exact Nat.le_refl _
  | succ s ih =>
    intro hs
    have h1 := ih (by omega)
    have h2 := hh s (by omega)
    have h3 : b * (s + 1) = b * s + b := Nat.mul_succ b s
    unfold dlS
    split <;> omega
theorem open_m (s : SS) {p : Nat} (hp : p < 32) : (fX7_isOpen s (nI p) = 0) ↔ bt (s.1 2) p = true := by
  unfold fX7_isOpen
  by_cases h : ((s.1 2 >>> (nI p &&& 31)) &&& 1) = 0
  · rw [if_pos h]
    have := (tb0 (s.1 2) hp).mp h
    rw [this]; decide
  · rw [if_neg h]
    have : bt (s.1 2) p = true := by
      cases hb : bt (s.1 2) p with
      | true => rfl
      | false => exact absurd ((tb0 (s.1 2) hp).mpr hb) h
    rw [this]; decide
theorem closed_c (c : SS) {p : Nat} (hp : p < 32) : (fX5_isClosed c (nI p) = 0) ↔ bt (c.1 2) p = false := by
  unfold fX5_isClosed
  by_cases h : ((c.1 2 >>> (nI p &&& 31)) &&& 1) = 1
  · rw [if_pos h, (tb1 (c.1 2) hp).mp h]; decide
  · rw [if_neg h]
    have : bt (c.1 2) p = false := by
      cases hb : bt (c.1 2) p with
      | false => rfl
      | true => exact absurd ((tb1 (c.1 2) hp).mpr hb) h
    rw [this]; decide
/-- the reference's state: people and line as in c, these closed, this hold -/
def MW (c s : SS) (sh : Int32) (h : Nat → Nat) : Prop := s.1 0 = c.1 1 ∧ s.1 2 = sh ∧ s.1 3 = c.1 5 ∧ (∀ j, j < vn c → s.2 1 j = c.2 1 j) ∧ (∀ p, p < 8 → pR c s p) ∧ ∀ j, j < vn c → s.2 17 j = nI (h j) ∧ h j ≤ 60
def flv (c : SS) (sh : Int32) (h : Nat → Nat) (s : SS) : SS := lp (vn c) (fun i s => sA s 18 (0 + i) (nI (dN (c.2 1) (bt sh) i + dly (bt sh) h i))) s
theorem flv_f (c : SS) (sh : Int32) (h : Nat → Nat) (s : SS) : (flv c sh h s).1 = s.1 ∧ (∀ j, j ≠ 18 → (flv c sh h s).2 j = s.2 j) ∧ ∀ j, j < vn c → (flv c sh h s).2 18 j = nI (dN (c.2 1) (bt sh) j + dly (bt sh) h j) := by
  obtain ⟨h1, h2, h3⟩ := lpA 18 0 (vn c) (fun i => nI (dN (c.2 1) (bt sh) i + dly (bt sh) h i)) s
  refine ⟨h1, h2, fun j hj => ?_⟩
  have := h3 j
  rw [if_pos (by omega)] at this
  exact this
theorem leaves_m {c s : SS} {sh : Int32} {h : Nat → Nat} (hW : WOK c) (hM : MW c s sh h) : fX7_findLeaves s = some (flv c sh h s) := by
  obtain ⟨⟨n1, n2, n3⟩, -⟩ := id hW
  obtain ⟨m1, m2, m3, m4, m5, m6⟩ := hM
  have hse := hW.se
  have hdl := dlS_le (cl := bt sh) (h := h) (b := 60) (fun j hj => (m6 j hj).2)
  unfold fX7_findLeaves flv
  refine (for_up (fun n i s => fX7_findLeaves_L4 n (nI (dpS (c.2 1) (bt sh) i + dlS (bt sh) h i)) (nI i) s) (vn c) (fun i s => sA s 18 (0 + i) (nI (dN (c.2 1) (bt sh) i + dly (bt sh) h i))) some (fun _ z => z.1 = s.1 ∧ ∀ j, j ≠ 18 → z.2 j = s.2 j) ?_ ?_ ?_ fu s (fu_big (by omega)) ⟨rfl, fun _ _ => rfl⟩).1
  · intro n i z hi ⟨z1, z2⟩
    show fX7_findLeaves_L4 (n + 1) (nI (dpS (c.2 1) (bt sh) i + dlS (bt sh) h i)) (nI i) z = fX7_findLeaves_L4 n (nI (dpS (c.2 1) (bt sh) (i + 1) + dlS (bt sh) h (i + 1))) (nI (i + 1)) _
    have hi6 : i < 6 := by omega
    have hs := hse i hi6
    have hd1 := dpS_le hse (bt sh) i (by omega)
    have hd2 := hdl i (by omega)
    have e1 : dpS (c.2 1) (bt sh) (i + 1) = dpS (c.2 1) (bt sh) i + (if bt sh i then (c.2 1 i).toNatClampNeg - 1 else (c.2 1 i).toNatClampNeg) := rfl
    have e2 : dlS (bt sh) h (i + 1) = dlS (bt sh) h i + (if bt sh i then 0 else h i) := rfl
    have e3 : dN (c.2 1) (bt sh) i + dly (bt sh) h i = dpS (c.2 1) (bt sh) i + (c.2 1 i).toNatClampNeg + dlS (bt sh) h (i + 1) := rfl
    rw [e3, e1]
    have op : ∀ w : SS, w.1 = s.1 → (fX7_isOpen w (nI i) = 0 ↔ bt sh i = true) := fun w hw => by rw [open_m w (by omega), hw, m2]
    rw [fX7_findLeaves_L4, if_neg (by rw [z1, m1, n1]; exact nI_ge hi (by omega)), ald_n hi6 (by decide), z2 1 (by omega), m4 i hi]
    simp only [jn_e, ckb_n hi6 (show 6 < 2 ^ 31 by decide), ald_n hi6 (show 6 < 2 ^ 31 by decide), z2 1 (show 1 ≠ 18 by omega), z2 17 (show 17 ≠ 18 by omega), m4 i hi, (m6 i hi).1, inc_n, nI_clamp (show i < 2 ^ 31 by omega), Nat.zero_add]
    generalize hv : (c.2 1 i).toNatClampNeg = v at hs ⊢
    rw [hs.1]
    cases hb : bt sh i with
    | true =>
      rw [if_pos ((op z z1).mpr hb)]
      rw [hb] at e2
      simp only [if_true] at e2
      have ev : v < 2 ^ 31 := by omega
      rw [if_pos ((op _ (by rw [sA_1]; exact z1)).mpr hb), e2]
      by_cases hv0 : v = 0
      · rw [hv0, if_pos (show nI 0 = 0 from rfl)]
        simp only [if_true]
        rw [show nI 0 + (0 : Int32) = nI 0 from rfl, nI_add, show (nI (dpS (c.2 1) (bt sh) i + dlS (bt sh) h i + 0) - (0 : Int32)) = nI (dpS (c.2 1) (bt sh) i + dlS (bt sh) h i) by rw [Int32.sub_zero]; rfl]
        congr 2 <;> congr 1 <;> omega
      · rw [if_neg (nI_ne0 (by omega) ev)]
        simp only [if_true]
        rw [show nI v + (0 : Int32) = nI v by rw [Int32.add_zero], nI_add]
        rw [show (nI (dpS (c.2 1) (bt sh) i + dlS (bt sh) h i + v) - (1 : Int32)) = nI (dpS (c.2 1) (bt sh) i + (v - 1) + (dlS (bt sh) h i + 0)) by
          rw [show dpS (c.2 1) (bt sh) i + dlS (bt sh) h i + v = (dpS (c.2 1) (bt sh) i + (v - 1) + (dlS (bt sh) h i + 0)) + 1 by omega]; exact nI_pred _]
        congr 2
        congr 1
        omega
    | false =>
      rw [if_neg (fun q => by have := (op z z1).mp q; rw [hb] at this; cases this)]
      rw [hb] at e2
      simp only [Bool.false_eq_true, if_false] at e2
      rw [if_neg (fun q => by have := (op _ (by rw [sA_1]; exact z1)).mp q; rw [hb] at this; cases this), e2]
      simp only [Bool.false_eq_true, if_false]
      rw [nI_add, nI_add, Int32.sub_zero, show dpS (c.2 1) (bt sh) i + dlS (bt sh) h i + (v + h i) = dpS (c.2 1) (bt sh) i + v + (dlS (bt sh) h i + h i) by omega]
  · intro n z ⟨z1, z2⟩
    show fX7_findLeaves_L4 (n + 1) _ (nI (vn c)) z = some z
    rw [fX7_findLeaves_L4, if_pos (by rw [z1, m1, n1]; exact Int32.le_refl _)]
  · intro i z hi ⟨z1, z2⟩
    exact ⟨by rw [sA_1]; exact z1, fun j hj => by rw [sA_2, if_neg hj]; exact z2 j hj⟩
/-- behind findLeaves -/
def ML2 (c s : SS) (sh : Int32) (d : Nat → Nat) : Prop := s.1 2 = sh ∧ s.1 3 = c.1 5 ∧ (∀ p, p < 8 → pR c s p) ∧ ∀ j, j < vn c → s.2 18 j = nI (dN (c.2 1) (bt sh) j + d j) ∧ d j ≤ 400
theorem MW.l2 {c s : SS} {sh : Int32} {h : Nat → Nat} (hW : WOK c) (hM : MW c s sh h) : ML2 c (flv c sh h s) sh (dly (bt sh) h) := by
  obtain ⟨f1, f2, f3⟩ := flv_f c sh h s
  obtain ⟨m1, m2, m3, m4, m5, m6⟩ := hM
  have n3 := hW.1.2.2
  have hdl := dlS_le (cl := bt sh) (h := h) (b := 60) (fun j hj => (m6 j hj).2)
  refine ⟨by rw [f1]; exact m2, by rw [f1]; exact m3, fun p hp => ?_, fun j hj => ⟨f3 j hj, ?_⟩⟩
  · obtain ⟨g1, g2, g3, g4, g5, g6⟩ := m5 p hp
    unfold pR
    rw [f2 4 (by omega), f2 5 (by omega), f2 6 (by omega), f2 7 (by omega), f2 8 (by omega), f2 9 (by omega)]
    exact ⟨g1, g2, g3, g4, g5, g6⟩
  · have := hdl (j + 1) (by omega)
    show dlS _ _ (j + 1) ≤ 400
    omega
theorem rides_m {c s : SS} {sh : Int32} {d : Nat → Nat} (hW : WOK c) (hM : ML2 c s sh d) {p late : Nat} (hp : p < 8) (hl : late ≤ 100) : ∃ r, fX7_rides s (nI p) (nI late) = some r ∧ (bt (c.1 5) p = true → r = if rdB c (bt sh) d late p then 1 else 0) := by
  obtain ⟨m1, m2, m3, m4⟩ := hM
  obtain ⟨⟨g1, g2, g3⟩, ⟨g4, g5⟩, -⟩ := hW.2.2.2.2.2.2.2.2 p hp
  obtain ⟨q1, q2, -⟩ := m3 p hp
  unfold fX7_rides
  simp only [ald_n hp (show 8 < 2 ^ 31 by decide), q1, q2, g1, g4, ald_n g2 (show 6 < 2 ^ 31 by decide), nI_add]
  by_cases ho : fX7_isOpen s (nI (va c p)) = 0
  · rw [if_pos ho]
    have hb := (open_m s (show va c p < 32 by omega)).mp ho
    rw [m1] at hb
    refine ⟨_, rfl, fun _ => ?_⟩
    unfold rdB
    rw [hb]; simp
  · rw [if_neg ho]
    have hb : bt sh (va c p) = false := by
      cases h : bt sh (va c p) with
      | false => rfl
      | true => exact absurd ((open_m s (show va c p < 32 by omega)).mpr (by rw [m1]; exact h)) ho
    by_cases hx : bt (c.1 5) p = true
    · obtain ⟨k1, k2⟩ := m4 (va c p) (g3 hx)
      rw [k1]
      have hd := dN_le hW.se (bt sh) g2
      by_cases hc : nI (dN (c.2 1) (bt sh) (va c p) + d (va c p)) < nI (vco c p + late)
      · rw [if_pos hc]
        refine ⟨_, rfl, fun _ => ?_⟩
        have := (nI_ltI (by omega) (by omega)).mp hc
        have hn : ¬ (vco c p + late ≤ dN (c.2 1) (bt sh) (va c p) + d (va c p)) := by omega
        unfold rdB
        simp [hn]
      · rw [if_neg hc]
        refine ⟨_, rfl, fun _ => ?_⟩
        have hn : vco c p + late ≤ dN (c.2 1) (bt sh) (va c p) + d (va c p) := by
          apply Nat.le_of_not_lt
          intro q
          exact hc (nI_lt q (by omega))
        unfold rdB
        simp [hx, hb, hn]
    · by_cases hc : s.2 18 (va c p) < nI (vco c p + late)
      · rw [if_pos hc]; exact ⟨_, rfl, fun q => absurd q hx⟩
      · rw [if_neg hc]; exact ⟨_, rfl, fun q => absurd q hx⟩
theorem there_m {c s : SS} (h3 : s.1 3 = c.1 5) {p : Nat} (hp : p < 8) : (fX7_isThere s (nI p) = 0) ↔ bt (c.1 5) p = false := by
  unfold fX7_isThere
  rw [lin, h3]
  simp only [ite0]
  have ep : (nI p).toInt = (p : Int) := nI_ti (by omega)
  have e0 : (0 : Int64).toInt = 0 := rfl
  have e7 : (7 : Int64).toInt = 7 := rfl
  rw [ep, e0, e7]
  have : (0 : Int) ≤ p ∧ (p : Int) ≤ 7 := by omega
  simp only [this, and_self, not_true_eq_false, if_false, tb1 (c.1 5) (show p < 32 by omega)]
  cases bt (c.1 5) p <;> simp
theorem now_m {c s : SS} {sh : Int32} {h : Nat → Nat} (hW : WOK c) (hM : MW c s sh h) : fX7_ridersNow s = some (bs (rdB c (bt sh) (dly (bt sh) h) 0), flv c sh h s) := by
  unfold fX7_ridersNow
  rw [leaves_m hW hM]
  have hL := hM.l2 hW
  simp only [Option.bind_some]
  generalize flv c sh h s = z at hL ⊢
  unfold bs
  refine for_up0 (fun n i b => fX7_ridersNow_L8 z n b (nI i)) 8 (fun p b => b ||| (if rdB c (bt sh) (dly (bt sh) h) 0 p then (1 : Int32) <<< (nI p &&& 31) else 0)) (fun b => some (b, z)) ?_ ?_ fu 0 (fu_big (by omega))
  · intro n i b hi
    show fX7_ridersNow_L8 z (n + 1) b (nI i) = fX7_ridersNow_L8 z n _ (nI (i + 1))
    rw [fX7_ridersNow_L8, if_neg (n8 hi), inc_n]
    simp only [jn_e]
    obtain ⟨r, r1, r2⟩ := rides_m hW hL hi (late := 0) (by omega)
    have r1' : fX7_rides z (nI i) 0 = some r := r1
    cases hx : bt (c.1 5) i with
    | false =>
      rw [if_pos ((there_m hL.2.1 hi).mpr hx)]
      have : rdB c (bt sh) (dly (bt sh) h) 0 i = false := by unfold rdB; rw [hx]; rfl
      rw [this]; rfl
    | true =>
      rw [if_neg (fun q => by have := (there_m hL.2.1 hi).mp q; rw [hx] at this; cases this), r1']
      simp only [Option.bind_some]
      rw [r2 hx]
      cases rdB c (bt sh) (dly (bt sh) h) 0 i with
      | true => rfl
      | false => rfl
  · intro n b
    show fX7_ridersNow_L8 z (n + 1) b (nI 8) = some (b, z)
    rw [fX7_ridersNow_L8, if_pos (show (8 : Int32) ≤ nI 8 by decide)]
