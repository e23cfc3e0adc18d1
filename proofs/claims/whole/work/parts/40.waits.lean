def noH (m : SS) : SS := lp 6 (fun i s => sA s 17 (0 + i) 0) m
theorem noH_f (m : SS) : (noH m).1 = m.1 ∧ (∀ j, j ≠ 17 → (noH m).2 j = m.2 j) ∧ ∀ j, j < 6 → (noH m).2 17 j = 0 := by
  obtain ⟨h1, h2, h3⟩ := lpA 17 0 6 (fun _ => 0) m
  refine ⟨h1, h2, fun p hp => ?_⟩
  have := h3 p
  rw [if_pos (by omega)] at this
  exact this
theorem noHold_m (m : SS) : fX7_noHold m = some (noH m) := by
  unfold fX7_noHold noH
  refine for_up0 (fun n i s => fX7_noHold_L2 n (nI i) s) 6 (fun i s => sA s 17 (0 + i) 0) some ?_ ?_ fu m (fu_big (by omega))
  · intro n i s hi
    show fX7_noHold_L2 (n + 1) (nI i) s = fX7_noHold_L2 n (nI (i + 1)) _
    rw [fX7_noHold_L2, if_neg (n6 hi), ckb_n hi (by decide), inc_n, nI_clamp (by omega), Nat.zero_add]
  · intro n s
    show fX7_noHold_L2 (n + 1) (nI 6) s = some s
    rw [fX7_noHold_L2, if_pos (show (6 : Int32) ≤ nI 6 by decide)]
theorem noH_ms (m : SS) : MS m (noH m) := by
  obtain ⟨f1, f2, f3⟩ := noH_f m
  exact MS_mk (fun k _ => by rw [f1]) (fun k hk => f2 k (by omega))
theorem MW_of {c m s : SS} {h : Nat → Nat} (hR : WR c m) (hm : MS m s) (hh : ∀ j, j < vn c → s.2 17 j = nI (h j) ∧ h j ≤ 60) : MW c s (c.1 2) h := by
  have hr := WR_of hR (CM.rf c) hm
  exact ⟨hr.1, hr.2.1, hr.2.2.1, hr.2.2.2.2.2.2.1, hr.2.2.2.2.2.2.2.1, hh⟩
def one (a v : Nat) (j : Nat) : Nat := if j = a then v else 0
theorem one_dl (cl : Nat → Bool) (a v : Nat) (hc : cl a = false) : dly cl (one a v) a = v := by
  have h0 : ∀ s, s ≤ a → dlS cl (one a v) s = 0 := by
    intro s
    induction s with
    | zero => intro _; rfl
    | succ s ih =>
      intro hs
      have e : one a v s = 0 := by
        unfold one
        rw [if_neg (by omega)]
      show dlS cl (one a v) s + (if cl s then 0 else one a v s) = 0
      rw [ih (by omega), e]
      split <;> rfl
  show dlS cl (one a v) a + _ = v
  rw [h0 a (Nat.le_refl _), hc]
  unfold one
  simp
theorem tnS_d {c : SS} {d d2 : Nat → Nat} {p later : Nat} {t : Int32} (h : d (va c p) = d2 (va c p)) : tnS c d p later t = tnS c d2 p later t := by
  unfold tnS rdB
  rw [h]
def wbad (c : SS) (k later : Nat) (t a b : Int32) (v : Nat) : Prop := ¬ (tnS c (fun _ => v) k later t * b < 10 * a)
theorem waits_c1 {c z : SS} (hW : WOK c) (h8 : ∀ p, p < 8 → z.2 8 p = ndv c (bt (c.1 2)) p) {k later most : Nat} (hk : k < 8) (hb : bt (c.1 5) k = true) (hl : later ≤ 100) (hm : most ≤ 9) (t a b : Int32) : (∃ v, v < most + 1 ∧ wbad c k later t a b v ∧ (∀ j, j < v → ¬ wbad c k later t a b j) ∧ fX6_waits_L108 z (nI k) (nI later) t a b (nI most) fu 0 = some (nI v, z)) ∨ ((∀ j, j < most + 1 → ¬ wbad c k later t a b j) ∧ fX6_waits_L108 z (nI k) (nI later) t a b (nI most) fu 0 = some (-6, z)) := by
  refine for_find (fun n i => fX6_waits_L108 z (nI k) (nI later) t a b (nI most) n (nI i)) (most + 1) (wbad c k later t a b) (some (-6, z)) (fun i => some (nI i, z)) ?_ ?_ ?_ fu (fu_big (by omega))
  · intro n
    show fX6_waits_L108 z (nI k) (nI later) t a b (nI most) (n + 1) (nI (most + 1)) = _
    rw [fX6_waits_L108, if_pos (nI_lt (by omega) (by omega))]
  · intro n i hi hw
    show fX6_waits_L108 z (nI k) (nI later) t a b (nI most) (n + 1) (nI i) = _
    rw [fX6_waits_L108, if_neg (nI_nlt (by omega) (by omega)), tenths_c hW h8 hk (show i ≤ 99 by omega) hb (fun _ => i) rfl hl t, Option.bind_some, if_neg hw]
  · intro n i hi hw
    show fX6_waits_L108 z (nI k) (nI later) t a b (nI most) (n + 1) (nI i) = fX6_waits_L108 z (nI k) (nI later) t a b (nI most) n (nI (i + 1))
    rw [fX6_waits_L108, if_neg (nI_nlt (by omega) (by omega)), tenths_c hW h8 hk (show i ≤ 99 by omega) hb (fun _ => i) rfl hl t, Option.bind_some, if_pos (Classical.not_not.mp hw), inc_n]
theorem waits_m1 {c m z : SS} (hW : WOK c) (hR : WR c m) {k later : Nat} (hk : k < 8) (hb : bt (c.1 5) k = true) (hcl : bt (c.1 2) (va c k) = false) (hl : later ≤ 100) (t a b : Int32) (hz : MS m z ∧ ∀ j, j < 6 → j ≠ va c k → z.2 17 j = 0) : (∃ v z2, v < min (vE c) (vB c) + 1 ∧ wbad c k later t a b v ∧ (∀ j, j < v → ¬ wbad c k later t a b j) ∧ (MS m z2 ∧ ∀ j, j < 6 → j ≠ va c k → z2.2 17 j = 0) ∧ fX7_waits_L70 (nI k) (nI later) t a b fu 0 z = some (nI v, z2)) ∨ ((∀ j, j < min (vE c) (vB c) + 1 → ¬ wbad c k later t a b j) ∧ ∃ z2, (MS m z2 ∧ ∀ j, j < 6 → j ≠ va c k → z2.2 17 j = 0) ∧ fX7_waits_L70 (nI k) (nI later) t a b fu 0 z = some (-6, z2)) := by
  obtain ⟨⟨n1, n2, n3⟩, -, ⟨b1, b2⟩, ⟨e1, e2⟩, -⟩ := id hW
  obtain ⟨⟨g1, g2, g3⟩, -⟩ := hW.2.2.2.2.2.2.2.2 k hk
  have step : ∀ (i : Nat) (s : SS), i ≤ 9 → (MS m s ∧ ∀ j, j < 6 → j ≠ va c k → s.2 17 j = 0) → ∃ s2, (MS m s2 ∧ ∀ j, j < 6 → j ≠ va c k → s2.2 17 j = 0) ∧ fX7_findLeaves (sA s 17 (va c k) (nI i)) = some s2 ∧ fX7_tenthsOf s2 (nI k) (nI later) t = some (tnS c (fun _ => i) k later t) := by
    intro i s hi ⟨h1, h2⟩
    have hms : MS m (sA s 17 (va c k) (nI i)) := h1.tr (MS_mk (fun _ _ => rfl) (fun j hj => by rw [sA_2, if_neg (by omega)]))
    have hmw : MW c (sA s 17 (va c k) (nI i)) (c.1 2) (one (va c k) i) := MW_of hR hms (fun j hj => by
      rw [sA_2, if_pos rfl, upd_e]
      unfold one
      by_cases e : j = va c k
      · rw [if_pos e, if_pos e]; exact ⟨rfl, by omega⟩
      · rw [if_neg e, if_neg e, h2 j (by omega) e]; exact ⟨rfl, by omega⟩)
    obtain ⟨r, t1, t2⟩ := tenths_m hW (hmw.l2 hW) hk hl t
    refine ⟨_, ⟨flv_ms hms, fun j hj hne => ?_⟩, leaves_m hW hmw, ?_⟩
    · rw [(flv_f _ _ _ _).2.1 17 (by omega), sA_2, if_pos rfl, upd_e, if_neg hne]; exact h2 j hj hne
    · rw [t1, t2 hb]
      exact congrArg some (tnS_d (one_dl (bt (c.1 2)) (va c k) i hcl))
  have l11 : ∀ s, MS m s → s.1 11 = nI (vE c) := fun s h => by rw [h.1.2.2.2.2.1, hR.2.2.2.2.1]; exact e1
  have l10 : ∀ s, MS m s → s.1 10 = nI (vB c) := fun s h => by rw [h.1.2.2.2.1, hR.2.2.2.1]; exact b1
  have l4 : ∀ s, MS m s → s.2 4 k = nI (va c k) := fun s h => by rw [h.2.2.1, (hR.2.2.2.2.2.2.2.1 k hk).1]; exact g1
  refine for_findS (fun n i s => fX7_waits_L70 (nI k) (nI later) t a b n (nI i) s) (min (vE c) (vB c) + 1) (wbad c k later t a b) (fun s => MS m s ∧ ∀ j, j < 6 → j ≠ va c k → s.2 17 j = 0) (fun s => some (-6, s)) (fun i s => some (nI i, s)) ?_ ?_ ?_ fu z (fu_big (by omega)) hz
  · intro n s hs
    show fX7_waits_L70 (nI k) (nI later) t a b (n + 1) (nI (min (vE c) (vB c) + 1)) s = _
    rw [fX7_waits_L70, l11 s hs.1, l10 s hs.1]
    by_cases hm : vE c ≤ vB c
    · rw [if_pos (nI_lt (by omega) (by omega))]
    · rw [if_neg (nI_nlt (by omega) (by omega)), if_pos (nI_lt (by omega) (by omega))]
  · intro n i s hi hs hw
    show ∃ s2, _ ∧ fX7_waits_L70 (nI k) (nI later) t a b (n + 1) (nI i) s = _
    obtain ⟨s2, q1, q2, q3⟩ := step i s (by omega) hs
    refine ⟨s2, q1, ?_⟩
    rw [fX7_waits_L70, l11 s hs.1, l10 s hs.1, if_neg (nI_nlt (by omega) (by omega)), if_neg (nI_nlt (by omega) (by omega)), ald_n hk (by decide), l4 s hs.1, ckb_n g2 (by decide), nI_clamp (by omega), q2, Option.bind_some, q3, Option.bind_some, if_neg hw]
  · intro n i s hi hs hw
    show ∃ s2, _ ∧ fX7_waits_L70 (nI k) (nI later) t a b (n + 1) (nI i) s = fX7_waits_L70 (nI k) (nI later) t a b n (nI (i + 1)) s2
    obtain ⟨s2, q1, q2, q3⟩ := step i s (by omega) hs
    refine ⟨s2, q1, ?_⟩
    rw [fX7_waits_L70, l11 s hs.1, l10 s hs.1, if_neg (nI_nlt (by omega) (by omega)), if_neg (nI_nlt (by omega) (by omega)), ald_n hk (by decide), l4 s hs.1, ckb_n g2 (by decide), nI_clamp (by omega), q2, Option.bind_some, q3, Option.bind_some, if_pos (Classical.not_not.mp hw), inc_n]
theorem may_c {c : SS} (hW : WOK c) {s left : Nat} (hs : s < 32) (hl : left ≤ 100) : fX5_mayHold c (nI s) (nI left) = nI (if bt (c.1 2) s then 0 else min (vE c) left) := by
  obtain ⟨-, -, -, ⟨e1, e2⟩, -⟩ := id hW
  unfold fX5_mayHold
  cases hb : bt (c.1 2) s with
  | true =>
    rw [if_neg (fun q => by have := (closed_c c hs).mp q; rw [hb] at this; cases this)]; rfl
  | false =>
    rw [if_pos ((closed_c c hs).mpr hb), e1]
    simp only [Bool.false_eq_true, if_false]
    unfold mmin
    by_cases h : left < vE c
    · rw [if_pos (nI_lt h (by omega)), Nat.min_eq_right (by omega)]
    · rw [if_neg (nI_nlt (by omega) (by omega)), Nat.min_eq_left (by omega)]
theorem waits_c2 {c z : SS} {p l t a b v5 mo : Int32} (h1 : ¬ fX5_isPerson c p = 0) (h2 : ¬ fX6_areRunners l t 0 = 0) (h3 : ¬ fX6_within b 1 100 = 0) (h4 : ¬ fX6_within a 0 b = 0) (k : Nat) (hp : p = nI k) (hk : k < 8) (e5 : c.2 2 k = v5) (ho : fX5_isClosed c v5 = 0) (em : fX4_measure c (c.1 2) = some z) (emo : fX5_mayHold z v5 (z.1 3) = mo) : fX6_waits c p l t a b = fX6_waits_L108 z p l t a b mo fu 0 := by
  unfold fX6_waits
  rw [if_neg h1, if_neg h2, if_neg h3, if_neg h4]
  rw [show ald 8 (c.2 2) p = ald 8 (c.2 2) (nI k) by rw [hp], ald_n hk (by decide), e5, if_pos ho, em, Option.bind_some, emo]
theorem waits_m2 {m : SS} {p l t a b v5 : Int32} (h1 : ¬ fX7_isThere m p = 0) (h2 : ¬ fX7_isRunning l t = 0) (h3 : ¬ fX7_in b.toInt64 1 100 = 0) (h4 : ¬ fX7_in a.toInt64 0 b.toInt64 = 0) (k : Nat) (hp : p = nI k) (hk : k < 8) (e5 : m.2 4 k = v5) (ho : ¬ fX7_isOpen m v5 = 0) : fX7_waits m p l t a b = fX7_waits_L70 p l t a b fu 0 (noH m) := by
  unfold fX7_waits
  rw [if_neg h1, if_neg h2, if_neg h3, if_neg h4]
  rw [show ald 8 (m.2 4) p = ald 8 (m.2 4) (nI k) by rw [hp], ald_n hk (by decide), e5, if_neg ho, noHold_m, Option.bind_some]
theorem ok_waits : OK_waits Inv := by
  intro c m i0 i1 p l t a b h
  obtain ⟨hW, hR, hP, hi0, hi1, hX⟩ := id h
  by_cases hp : PP c p
  · have h1 : ¬ fX5_isPerson c p = 0 := fun z => (pc0 c p).mp z hp
    have g1 : ¬ fX7_isThere m p = 0 := fun z => (pm0 hR p).mp z hp
    by_cases hr : runOK l t
    · have g2 : ¬ fX7_isRunning l t = 0 := fun z => (running_m l t).mp z hr
      have h2 : ¬ fX6_areRunners l t 0 = 0 := fun z => (runners_c l t 0).mp z ⟨hr, by decide⟩
      have w1 : (fX6_within b 1 100 = 0) ↔ ¬ (1 ≤ b.toInt ∧ b.toInt ≤ 100) := by rw [win, ite0]; rfl
      have w2 : (fX7_in b.toInt64 1 100 = 0) ↔ ¬ (1 ≤ b.toInt ∧ b.toInt ≤ 100) := by rw [lin, ite0]; rfl
      have w3 : (fX6_within a 0 b = 0) ↔ ¬ (0 ≤ a.toInt ∧ a.toInt ≤ b.toInt) := by rw [win, ite0]; rfl
      have w4 : (fX7_in a.toInt64 0 b.toInt64 = 0) ↔ ¬ (0 ≤ a.toInt ∧ a.toInt ≤ b.toInt) := by rw [lin, ite0, Int32.toInt_toInt64]; rfl
      by_cases hb : 1 ≤ b.toInt ∧ b.toInt ≤ 100
      · by_cases ha : 0 ≤ a.toInt ∧ a.toInt ≤ b.toInt
        · obtain ⟨k, hk, rfl, hbk⟩ := hp.n
          obtain ⟨lt, l1, rfl, l3⟩ := nI_back (show 0 ≤ l.toInt by have := hr.1.1; omega)
          have hlt : lt ≤ 100 := by have := hr.1.2; omega
          obtain ⟨⟨a1, a2, a3⟩, -⟩ := hW.2.2.2.2.2.2.2.2 k hk
          have em4 : m.2 4 k = nI (va c k) := by rw [(hR.2.2.2.2.2.2.2.1 k hk).1]; exact a1
          cases hcl : bt (c.1 2) (va c k) with
          | false =>
            have ho : fX5_isClosed c (nI (va c k)) = 0 := (closed_c c (by omega)).mpr hcl
            have go : ¬ fX7_isOpen m (nI (va c k)) = 0 := fun q => by have := (open_m m (show va c k < 32 by omega)).mp q; rw [hR.2.1, hcl] at this; cases this
            obtain ⟨m1, m2, m3⟩ := msr_f c (c.1 2)
            have hWz : WOK (msr c (c.1 2)) := WOK_1 hW m1 (fun j hj => m2 j (by omega))
            have emo : fX5_mayHold (msr c (c.1 2)) (nI (va c k)) ((msr c (c.1 2)).1 3) = nI (min (vE c) (vB c)) := by
              have e3 : (msr c (c.1 2)).1 3 = nI (vB c) := by rw [m1]; exact hW.2.2.1.1
              rw [e3, may_c hWz (by omega) (by have := hW.2.2.1.2; omega), m1, hcl]
              have : vE (msr c (c.1 2)) = vE c := by unfold vE; rw [m1]
              rw [this]
              rfl
            rw [waits_c2 h1 h2 (fun q => w1.mp q hb) (fun q => w3.mp q ha) k rfl hk a1 ho (measure_s hW _) emo, waits_m2 g1 g2 (fun q => w2.mp q hb) (fun q => w4.mp q ha) k rfl hk em4 go]
            have hcm : CM c (msr c (c.1 2)) := ⟨fun q _ => by rw [m1], fun q hq => m2 q (by omega), fun hx x hx6 => by rw [m2 20 (by omega), m2 17 (by omega)]; exact hx x hx6⟩
            have hmin : min (vE c) (vB c) ≤ 9 := by have := hW.2.2.1.2; omega
            rcases waits_c1 hW m3 hk hbk hlt hmin t a b with ⟨v, v1, v2, v3, v4⟩ | ⟨v1, v2⟩
            · rcases waits_m1 hW hR hk hbk hcl hlt t a b ⟨noH_ms m, fun j hj _ => (noH_f m).2.2 j hj⟩ with ⟨u, z2, u1, u2, u3, u4, u5⟩ | ⟨u1, -⟩
              · have huv : v = u := by
                  rcases Nat.lt_trichotomy v u with hl | hl | hl
                  · exact absurd v2 (u3 v hl)
                  · exact hl
                  · exact absurd u2 (v3 u hl)
                subst huv
                exact ⟨_, _, _, v4, u5, Inv_of h hcm u4.1⟩
              · exact absurd v2 (u1 v v1)
            · rcases waits_m1 hW hR hk hbk hcl hlt t a b ⟨noH_ms m, fun j hj _ => (noH_f m).2.2 j hj⟩ with ⟨u, z2, u1, u2, u3, u4, u5⟩ | ⟨u1, z2, u4, u5⟩
              · exact absurd u2 (v1 u u1)
              · exact ⟨_, _, _, v2, u5, Inv_of h hcm u4.1⟩
          | true =>
            have ho : ¬ fX5_isClosed c (nI (va c k)) = 0 := fun q => by have := (closed_c c (show va c k < 32 by omega)).mp q; rw [hcl] at this; cases this
            have go : fX7_isOpen m (nI (va c k)) = 0 := (open_m m (by omega)).mpr (by rw [hR.2.1]; exact hcl)
            unfold fX6_waits fX7_waits
            rw [if_neg h1, if_neg h2, if_neg (fun q => w1.mp q hb), if_neg (fun q => w3.mp q ha), if_neg g1, if_neg g2, if_neg (fun q => w2.mp q hb), if_neg (fun q => w4.mp q ha), ald_n hk (by decide), ald_n hk (by decide), em4, a1, if_neg ho, if_pos go]
            exact ⟨_, _, _, rfl, rfl, h⟩
        · unfold fX6_waits fX7_waits
          rw [if_neg h1, if_neg h2, if_neg (fun q => w1.mp q hb), if_pos (w3.mpr ha), if_neg g1, if_neg g2, if_neg (fun q => w2.mp q hb), if_pos (w4.mpr ha)]
          exact ⟨_, _, _, rfl, rfl, h⟩
      · unfold fX6_waits fX7_waits
        rw [if_neg h1, if_neg h2, if_pos (w1.mpr hb), if_neg g1, if_neg g2, if_pos (w2.mpr hb)]
        exact ⟨_, _, _, rfl, rfl, h⟩
    · have h2 : fX6_areRunners l t 0 = 0 := (runners_c l t 0).mpr (fun z => hr z.1)
      have g2 : fX7_isRunning l t = 0 := (running_m l t).mpr hr
      unfold fX6_waits fX7_waits
      rw [if_neg h1, if_pos h2, if_neg g1, if_pos g2]
      exact ⟨_, _, _, rfl, rfl, h⟩
  · unfold fX6_waits fX7_waits
    rw [if_pos ((pc0 c p).mpr hp), if_pos ((pm0 hR p).mpr hp)]
    exact ⟨_, _, _, rfl, rfl, h⟩
