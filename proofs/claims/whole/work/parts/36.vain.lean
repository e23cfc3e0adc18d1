theorem for_findS {σ R : Type} (L : Nat → Nat → σ → R) (N : Nat) (bad : Nat → Prop) (Iv : σ → Prop) (E : σ → R) (F : Nat → σ → R) (hE : ∀ n s, Iv s → L (n + 1) N s = E s) (hF : ∀ n i s, i < N → Iv s → bad i → ∃ s2, Iv s2 ∧ L (n + 1) i s = F i s2) (hS : ∀ n i s, i < N → Iv s → ¬ bad i → ∃ s2, Iv s2 ∧ L (n + 1) i s = L n (i + 1) s2) :
    ∀ n s, N < n → Iv s → (∃ i s2, i < N ∧ bad i ∧ (∀ j, j < i → ¬ bad j) ∧ Iv s2 ∧ L n 0 s = F i s2) ∨ ((∀ j, j < N → ¬ bad j) ∧ ∃ s2, Iv s2 ∧ L n 0 s = E s2) := by
  have key : ∀ (j i n : Nat) (s : σ), i + j = N → j < n → Iv s → (∀ q, q < i → ¬ bad q) → (∃ r s2, r < N ∧ bad r ∧ (∀ q, q < r → ¬ bad q) ∧ Iv s2 ∧ L n i s = F r s2) ∨ ((∀ q, q < N → ¬ bad q) ∧ ∃ s2, Iv s2 ∧ L n i s = E s2) := by
    intro j
    induction j with
    | zero =>
      intro i n s h1 h2 hs h3
      obtain rfl : i = N := by omega
      obtain ⟨n, rfl⟩ : ∃ k, n = k + 1 := ⟨n - 1, by omega⟩
      exact Or.inr ⟨h3, s, hs, hE n s hs⟩
    | succ j ih =>
      intro i n s h1 h2 hs h3
      obtain ⟨n, rfl⟩ : ∃ k, n = k + 1 := ⟨n - 1, by omega⟩
      by_cases hb : bad i
      · obtain ⟨s2, g1, g2⟩ := hF n i s (by omega) hs hb
        exact Or.inl ⟨i, s2, by omega, hb, h3, g1, g2⟩
      · obtain ⟨s2, g1, g2⟩ := hS n i s (by omega) hs hb
        rw [g2]
        refine ih (i + 1) n s2 (by omega) (by omega) g1 (fun q hq => ?_)
        by_cases hqi : q = i
        · subst hqi; exact hb
        · exact h3 q (by omega)
  intro n s hn hs
  exact key N 0 n s (by omega) hn hs (fun q hq => absurd hq (by omega))
def hd0 (c : SS) (i j : Nat) : Nat := if j = i then 0 else hd c j
theorem dlS_cl {cl : Nat → Bool} {g : Nat → Nat} (h : ∀ s, cl s = true → g s = 0) : ∀ s, dlS cl g s = dlS (fun _ => false) g s := by
  intro s
  induction s with
  | zero => rfl
  | succ s ih =>
    show dlS _ _ s + _ = dlS _ _ s + _
    rw [ih]
    cases hb : cl s with
    | true => simp [h s hb]
    | false => rfl
theorem hd_cl (c : SS) (s : Nat) (h : bt (c.1 2) s = true) : hd c s = 0 := by unfold hd; rw [h]; rfl
theorem hd0_cl (c : SS) (i s : Nat) (h : bt (c.1 2) s = true) : hd0 c i s = 0 := by
  unfold hd0
  by_cases e : s = i
  · rw [if_pos e]
  · rw [if_neg e]; exact hd_cl c s h
def vbad (c : SS) (i : Nat) : Prop := 0 < hd c i ∧ bs (rdB c (bt (c.1 2)) (dly (bt (c.1 2)) (hd0 c i)) 0) = bs (rdp c)
/-- the class's state in vain's loop -/
def VC (c z : SS) : Prop := z.1 = c.1 ∧ (∀ j, j ≠ 8 → j ≠ 19 → j ≠ 20 → z.2 j = c.2 j) ∧ (∀ p, p < 8 → z.2 8 p = ndv c (bt (c.1 2)) p) ∧ (∀ s, s < vn c → z.2 19 s = nI (hd c s)) ∧ ∀ s, s < 6 → (z.2 20 s).toInt ≤ 99
theorem without_c {c z : SS} (hW : WOK c) (hf : HF c) (h : VC c z) {i : Nat} (hi : i < vn c) : ∃ z2, fX6_ridersWithout z (nI i) = some (bs (rdB c (bt (c.1 2)) (dly (bt (c.1 2)) (hd0 c i)) 0), z2) ∧ VC c z2 := by
  obtain ⟨h1, h2, h3, h4, h5⟩ := h
  obtain ⟨⟨n1, n2, n3⟩, -⟩ := id hW
  have hi6 : i < 6 := by omega
  have hb9 : ∀ s, s < vn c → hd0 c i s ≤ 9 := by
    intro s hs
    unfold hd0
    by_cases e : s = i
    · rw [if_pos e]; omega
    · rw [if_neg e]; exact (hd_le hf hs).1
  have hS9 := dlS_le (cl := fun _ => false) (h := hd0 c i) (b := 9) hb9
  unfold fX6_ridersWithout
  simp only [ald_n hi6 (show 6 < 2 ^ 31 by decide), ckb_n hi6 (show 6 < 2 ^ 31 by decide), nI_clamp (show i < 2 ^ 31 by omega), h4 i hi]
  have hy1 : (sA z 19 i 0).1 1 = nI (vn c) := by rw [sA_1, h1]; exact n1
  have hyg : ∀ s, s < vn c → (sA z 19 i 0).2 19 s = nI (hd0 c i s) := by
    intro s hs
    rw [sA_2, if_pos rfl, upd_e]
    unfold hd0
    by_cases e : s = i
    · rw [if_pos e, if_pos e]; rfl
    · rw [if_neg e, if_neg e]; exact h4 s hs
  rw [addD_s n3 hy1 hyg]
  obtain ⟨a1, a2, a3⟩ := addD_f (vn c) (hd0 c i) (sA z 19 i 0)
  generalize addD (vn c) (hd0 c i) (sA z 19 i 0) = y at a1 a2 a3 ⊢
  simp only [Option.bind_some]
  have y1 : y.1 = c.1 := by rw [a1, sA_1, h1]
  have yj : ∀ j, j ≠ 8 → j ≠ 19 → j ≠ 20 → y.2 j = c.2 j := fun j e1 e2 e3 => by rw [a2 j e3, sA_2, if_neg e2]; exact h2 j e1 e2 e3
  have y8 : ∀ p, p < 8 → y.2 8 p = ndv c (bt (c.1 2)) p := fun p hp => by rw [a2 8 (by omega), sA_2, if_neg (by omega)]; exact h3 p hp
  have y20 : ∀ s, s < 6 → (y.2 20 s).toInt ≤ 99 := by
    intro s hs
    rw [a3]
    by_cases e : s < vn c
    · rw [if_pos e]
      have := hS9 (s + 1) (by omega)
      rw [nI_ti (by omega)]; omega
    · rw [if_neg e, sA_2, if_neg (by omega)]; exact h5 s hs
  have hr : fX4_ridersLate_27 y (nI 0) = some (bs (rdB c (bt (c.1 2)) (dly (bt (c.1 2)) (hd0 c i)) 0)) := by
    refine late27_s hW (bt (c.1 2)) y1 (yj 2 (by omega) (by omega) (by omega)) y8 _ (fun p hp => ?_) 0 (by omega)
    obtain ⟨⟨g1, g2, g3⟩, -⟩ := hW.2.2.2.2.2.2.2.2 p hp
    refine ⟨_, rfl, y20 _ g2, fun hb => ?_⟩
    rw [a3, if_pos (g3 hb)]
    have e : dly (bt (c.1 2)) (hd0 c i) (va c p) = dlS (fun _ => false) (hd0 c i) (va c p + 1) := dlS_cl (hd0_cl c i) _
    rw [e]
    have := hS9 (va c p + 1) (by have := g3 hb; omega)
    exact ⟨rfl, by omega⟩
  have hr2 : fX4_ridersBy_27 y = some (bs (rdB c (bt (c.1 2)) (dly (bt (c.1 2)) (hd0 c i)) 0)) := by
    unfold fX4_ridersBy_27
    rw [show fX4_ridersLate_27 y 0 = _ from hr]
    rfl
  rw [hr2]
  refine ⟨_, rfl, ?_, fun j e1 e2 e3 => ?_, fun p hp => ?_, fun s hs => ?_, fun s hs => ?_⟩
  · rw [sA_1]; exact y1
  · rw [sA_2, if_neg e2]; exact yj j e1 e2 e3
  · rw [sA_2, if_neg (by omega)]; exact y8 p hp
  · rw [sA_2, if_pos rfl, upd_e]
    by_cases e : s = i
    · rw [if_pos e, e]
    · rw [if_neg e, a2 19 (by omega), hyg s hs]
      unfold hd0; rw [if_neg e]
  · rw [sA_2, if_neg (by omega)]; exact y20 s hs
theorem vain_c {c z : SS} (hW : WOK c) (hf : HF c) (hz : VC c z) : (∃ i z2, i < vn c ∧ vbad c i ∧ (∀ j, j < i → ¬ vbad c j) ∧ VC c z2 ∧ fX6_vain_L24 (bs (rdp c)) fu 0 z = some (nI i, z2)) ∨ ((∀ j, j < vn c → ¬ vbad c j) ∧ ∃ z2, VC c z2 ∧ fX6_vain_L24 (bs (rdp c)) fu 0 z = some (-6, z2)) := by
  obtain ⟨⟨n1, n2, n3⟩, -⟩ := id hW
  refine for_findS (fun n i s => fX6_vain_L24 (bs (rdp c)) n (nI i) s) (vn c) (vbad c) (VC c) (fun s => some (-6, s)) (fun i s => some (nI i, s)) ?_ ?_ ?_ fu z (fu_big (by omega)) hz
  · intro n s hs
    show fX6_vain_L24 (bs (rdp c)) (n + 1) (nI (vn c)) s = _
    rw [fX6_vain_L24, if_pos (by rw [hs.1, n1]; exact Int32.le_refl _)]
  · intro n i s hi hs hb
    show ∃ s2, _ ∧ fX6_vain_L24 (bs (rdp c)) (n + 1) (nI i) s = _
    have h9 := (hd_le hf hi).1
    obtain ⟨z2, e1, e2⟩ := without_c hW hf hs hi
    refine ⟨z2, e2, ?_⟩
    rw [fX6_vain_L24, if_neg (by rw [hs.1, n1]; exact nI_ge hi (by omega)), ald_n (by omega) (by decide), hs.2.2.2.1 i hi]
    simp only [jn_e]
    rw [if_neg (nI_nle hb.1 (by omega)), e1]
    simp only [Option.bind_some]
    rw [if_pos hb.2]
  · intro n i s hi hs hb
    show ∃ s2, _ ∧ fX6_vain_L24 (bs (rdp c)) (n + 1) (nI i) s = fX6_vain_L24 (bs (rdp c)) n (nI (i + 1)) s2
    have h9 := (hd_le hf hi).1
    rw [fX6_vain_L24, if_neg (by rw [hs.1, n1]; exact nI_ge hi (by omega)), ald_n (by omega) (by decide), hs.2.2.2.1 i hi, inc_n]
    simp only [jn_e]
    by_cases h0 : hd c i = 0
    · rw [h0, if_pos (show nI 0 ≤ 0 by decide)]
      exact ⟨s, hs, rfl⟩
    · rw [if_neg (nI_nle (by omega) (by omega))]
      obtain ⟨z2, e1, e2⟩ := without_c hW hf hs hi
      rw [e1]
      simp only [Option.bind_some]
      rw [if_neg (fun q => hb ⟨by omega, q⟩)]
      exact ⟨z2, e2, rfl⟩
def VM (c m z : SS) : Prop := MW c z (c.1 2) (hd c) ∧ MS m z
theorem MW.set0 {c z : SS} (hf : HF c) (h : MW c z (c.1 2) (hd c)) (i : Nat) : MW c (sA z 17 i 0) (c.1 2) (hd0 c i) := by
  obtain ⟨m1, m2, m3, m4, m5, m6⟩ := h
  refine ⟨m1, m2, m3, m4, m5, fun j hj => ?_⟩
  rw [sA_2, if_pos rfl, upd_e]
  unfold hd0
  by_cases e : j = i
  · rw [if_pos e, if_pos e]; exact ⟨rfl, by omega⟩
  · rw [if_neg e, if_neg e]; exact m6 j hj
theorem vain_m {c m z : SS} (hW : WOK c) (hf : HF c) (hz : VM c m z) : (∃ i z2, i < vn c ∧ vbad c i ∧ (∀ j, j < i → ¬ vbad c j) ∧ VM c m z2 ∧ fX7_vain_L17 (bs (rdp c)) fu 0 z = some (nI i, z2)) ∨ ((∀ j, j < vn c → ¬ vbad c j) ∧ ∃ z2, VM c m z2 ∧ fX7_vain_L17 (bs (rdp c)) fu 0 z = some (-6, z2)) := by
  obtain ⟨⟨n1, n2, n3⟩, -⟩ := id hW
  have back : ∀ s i, VM c m s → i < vn c → VM c m (sA (flv c (c.1 2) (hd0 c i) (sA s 17 i 0)) 17 i (nI (hd c i))) := by
    intro s i ⟨hs, hms⟩ hi
    obtain ⟨m1, m2, m3, m4, m5, m6⟩ := hs
    obtain ⟨f1, f2, f3⟩ := flv_f c (c.1 2) (hd0 c i) (sA s 17 i 0)
    refine ⟨⟨by rw [sA_1, f1, sA_1]; exact m1, by rw [sA_1, f1, sA_1]; exact m2, by rw [sA_1, f1, sA_1]; exact m3, fun j hj => ?_, fun p hp => ?_, fun j hj => ?_⟩, hms.tr (MS_mk (fun k hk => ?_) (fun k hk => ?_))⟩
    · rw [sA_2, if_neg (by omega), f2 1 (by omega), sA_2, if_neg (by omega)]; exact m4 j hj
    · unfold pR
      rw [sA_2, sA_2, sA_2, sA_2, sA_2, sA_2, if_neg (by omega), if_neg (by omega), if_neg (by omega), if_neg (by omega), if_neg (by omega), if_neg (by omega), f2 4 (by omega), f2 5 (by omega), f2 6 (by omega), f2 7 (by omega), f2 8 (by omega), f2 9 (by omega)]
      exact m5 p hp
    · rw [sA_2, if_pos rfl, upd_e]
      by_cases e : j = i
      · rw [if_pos e, e]; exact ⟨rfl, (m6 i hi).2⟩
      · rw [if_neg e, f2 17 (by omega), sA_2, if_pos rfl, upd_e, if_neg e]; exact m6 j hj
    · rw [sA_1, f1, sA_1]
    · rw [sA_2, if_neg (by omega), f2 k (by omega), sA_2, if_neg (by omega)]
  refine for_findS (fun n i s => fX7_vain_L17 (bs (rdp c)) n (nI i) s) (vn c) (vbad c) (VM c m) (fun s => some (-6, s)) (fun i s => some (nI i, s)) ?_ ?_ ?_ fu z (fu_big (by omega)) hz
  · intro n s hs
    show fX7_vain_L17 (bs (rdp c)) (n + 1) (nI (vn c)) s = _
    rw [fX7_vain_L17, if_pos (by rw [hs.1.1, n1]; exact Int32.le_refl _)]
  · intro n i s hi hs hb
    show ∃ s2, _ ∧ fX7_vain_L17 (bs (rdp c)) (n + 1) (nI i) s = _
    have h9 := (hd_le hf hi).1
    have hi6 : i < 6 := by omega
    refine ⟨_, back s i hs hi, ?_⟩
    rw [fX7_vain_L17, if_neg (by rw [hs.1.1, n1]; exact nI_ge hi (by omega))]
    simp only [jn_e, ald_n hi6 (show 6 < 2 ^ 31 by decide), ckb_n hi6 (show 6 < 2 ^ 31 by decide), (hs.1.2.2.2.2.2 i hi).1, nI_clamp (show i < 2 ^ 31 by omega)]
    rw [now_m hW (hs.1.set0 hf i)]
    simp only [Option.bind_some]
    rw [if_pos hb.2, if_neg (nI_nle hb.1 (by omega)), if_neg (by decide)]
  · intro n i s hi hs hb
    show ∃ s2, _ ∧ fX7_vain_L17 (bs (rdp c)) (n + 1) (nI i) s = fX7_vain_L17 (bs (rdp c)) n (nI (i + 1)) s2
    have h9 := (hd_le hf hi).1
    have hi6 : i < 6 := by omega
    refine ⟨_, back s i hs hi, ?_⟩
    rw [fX7_vain_L17, if_neg (by rw [hs.1.1, n1]; exact nI_ge hi (by omega))]
    simp only [jn_e, ald_n hi6 (show 6 < 2 ^ 31 by decide), ckb_n hi6 (show 6 < 2 ^ 31 by decide), (hs.1.2.2.2.2.2 i hi).1, nI_clamp (show i < 2 ^ 31 by omega), inc_n]
    rw [now_m hW (hs.1.set0 hf i)]
    simp only [Option.bind_some]
    by_cases h0 : hd c i = 0
    · rw [h0, if_pos (show nI 0 ≤ 0 by decide)]
      by_cases hq : bs (rdB c (bt (c.1 2)) (dly (bt (c.1 2)) (hd0 c i)) 0) = bs (rdp c)
      · rw [if_pos hq]
      · rw [if_neg hq, if_pos (show nI 0 ≤ 0 by decide)]
    · rw [if_neg (fun q => hb ⟨by omega, q⟩), if_neg (nI_nle (by omega) (by omega)), if_pos trivial]
theorem vain_c1 {c z : SS} {b : Int32} (e : fX6_readGoodHold c = some (1, z)) (e2 : fX4_ridersBy_27 z = some b) : fX6_vain c = fX6_vain_L24 b fu 0 z := by
  unfold fX6_vain
  rw [e, Option.bind_some, if_neg ((show ¬ (1 : Int32) = 0 by decide) : ¬ ((1 : Int32), z).1 = 0), e2, Option.bind_some]
theorem vain_m1 {m z y : SS} {b : Int32} (e : fX7_isRefused m = some (0, z)) (e2 : fX7_ridersNow z = some (b, y)) : fX7_vain m = fX7_vain_L17 b fu 0 y := by
  unfold fX7_vain
  rw [e, Option.bind_some, if_pos rfl, e2, Option.bind_some]
theorem vain_c2 {c z : SS} (e : fX6_readGoodHold c = some (0, z)) : fX6_vain c = some (-5, z) := by
  unfold fX6_vain
  rw [e, Option.bind_some, if_pos rfl]
theorem vain_m2 {m z : SS} (e : fX7_isRefused m = some (1, z)) : fX7_vain m = some (-5, z) := by
  unfold fX7_vain
  rw [e, Option.bind_some, if_neg ((show ¬ (1 : Int32) = 0 by decide) : ¬ ((1 : Int32), z).1 = 0)]
theorem ok_vain : OK_vain Inv := by
  intro c m i0 i1 h
  obtain ⟨hW, hR, hP, hi0, hi1, hX⟩ := id h
  rcases rgh_c hW hP with ⟨hg, z, e, hz⟩ | ⟨hg, z, e, hz⟩
  · rcases ref_m hW hR hP with ⟨-, y, f, hy, hms⟩ | ⟨hn, -⟩
    · rw [vain_c1 e (zc_by hW hg.1 hX hz), vain_m1 f (now_m hW hy)]
      have hf := hg.1
      have hv : VC c z := ⟨hz.1, hz.2.1, hz.2.2.1, hz.2.2.2.1, fun s hs => ((hz.cm hW hf).2.2 hX s hs).1⟩
      have cmv : ∀ z2, VC c z2 → CM c z2 := fun z2 h2 => ⟨fun k _ => by rw [h2.1], fun k hk => h2.2.1 k (by omega) (by omega) (by omega), fun hx a ha => ⟨h2.2.2.2.2 a ha, by rw [h2.2.1 17 (by omega) (by omega) (by omega)]; exact (hx a ha).2⟩⟩
      have hv2 : VM c m (flv c (c.1 2) (hd c) y) := by
        obtain ⟨f1, f2, f3⟩ := flv_f c (c.1 2) (hd c) y
        obtain ⟨m1, m2, m3, m4, m5, m6⟩ := hy
        refine ⟨⟨by rw [f1]; exact m1, by rw [f1]; exact m2, by rw [f1]; exact m3, fun j hj => by rw [f2 1 (by omega)]; exact m4 j hj, fun p hp => ?_, fun j hj => by rw [f2 17 (by omega)]; exact m6 j hj⟩, flv_ms hms⟩
        unfold pR
        rw [f2 4 (by omega), f2 5 (by omega), f2 6 (by omega), f2 7 (by omega), f2 8 (by omega), f2 9 (by omega)]
        exact m5 p hp
      rw [show rdB c (bt (c.1 2)) (dly (bt (c.1 2)) (hd c)) 0 = rdp c from rfl]
      rcases vain_c hW hf hv with ⟨i, z2, a1, a2, a3, a4, a5⟩ | ⟨a1, z2, a2, a3⟩
      · rcases vain_m hW hf hv2 with ⟨j, y2, b1, b2, b3, b4, b5⟩ | ⟨b1, -⟩
        · have hij : i = j := by
            rcases Nat.lt_trichotomy i j with hl | hl | hl
            · exact absurd a2 (b3 i hl)
            · exact hl
            · exact absurd b2 (a3 j hl)
          subst hij
          exact ⟨_, _, _, a5, b5, Inv_of h (cmv z2 a4) b4.2⟩
        · exact absurd a2 (b1 i a1)
      · rcases vain_m hW hf hv2 with ⟨j, y2, b1, b2, b3, b4, b5⟩ | ⟨b1, y2, b2, b3⟩
        · exact absurd b2 (a1 j b1)
        · exact ⟨_, _, _, a3, b3, Inv_of h (cmv z2 a2) b2.2⟩
    · exact absurd hg hn
  · rcases ref_m hW hR hP with ⟨hn, -⟩ | ⟨-, y, f, hms⟩
    · exact absurd hn hg
    · rw [vain_c2 e, vain_m2 f]
      exact ⟨_, _, _, rfl, rfl, Inv_of h hz hms⟩
