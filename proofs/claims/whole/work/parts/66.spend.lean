/-! the class's purse -/
def qN (c : SS) (k p : Nat) : Bool := bt (c.1 5) p && bt (c.2 7 p) k
theorem comeIn_c {c z : SS} (hz : PC c z) {k : Nat} (hk : k < 7) : fX5_comeIn z (nI k) = some (bs (qN c k)) := by
  unfold fX5_comeIn bs
  refine for_up0 (fun n i b => fX5_comeIn_L4 z (nI k) n b (nI i)) 8 (fun p b => b ||| (if qN c k p then (1 : Int32) <<< (nI p &&& 31) else 0)) some ?_ ?_ fu 0 (fu_big (by omega))
  · intro n i b hi
    show fX5_comeIn_L4 z (nI k) (n + 1) b (nI i) = fX5_comeIn_L4 z (nI k) n _ (nI (i + 1))
    rw [fX5_comeIn_L4, if_neg (n8 hi), inc_n, person_c, nI_ti (by omega), hz.1, hz.2 7 (by omega)]
    simp only [jn_e, ite0, ald_n hi (show 8 < 2 ^ 31 by decide), bt_dec _ k (show k < 32 by omega)]
    have ei : ((i : Int)).toNat = i := by omega
    rw [ei]
    unfold qN
    cases e1 : bt (c.1 5) i with
    | false =>
      rw [if_pos (fun q => by cases q.2.2), Bool.false_and, if_neg (show ¬ false = true by decide), or_0]
    | true =>
      rw [if_neg (fun q => q ⟨by omega, by omega, rfl⟩), Bool.true_and]
      cases e2 : bt (c.2 7 i) k with
      | false => rw [if_neg (show ¬ false = true by decide), if_neg (show ¬ false = true by decide), or_0]
      | true => rw [if_pos rfl, if_pos rfl]
  · intro n b
    show fX5_comeIn_L4 z (nI k) (n + 1) b (nI 8) = some b
    rw [fX5_comeIn_L4, if_pos (show (8 : Int32) ≤ nI 8 by decide)]
/-- a row of the purse: o is where it begins -/
def XR (z : SS) (B o : Nat) (f : Nat → Int) (y : SS) : Prop := y.1 = z.1 ∧ (∀ j, j ≠ 13 → y.2 j = z.2 j) ∧ (∀ d, d ≤ B → y.2 13 (o + d) = iI (f d)) ∧ ∀ i, (i < o ∨ o + 10 ≤ i) → y.2 13 i = z.2 13 i
theorem top_c {y : SS} {B o d M : Nat} {f : Nat → Int} (hB : B ≤ 9) (ho : o ≤ 60) (hd : d ≤ B) (hM : M ≤ d) (a1 a4 : Int32) (K : Int32 → Option SS) (hy : ∀ b, b ≤ d → y.2 13 (o + b) = iI (f b)) (hf : ∀ b, -2000000 ≤ f b ∧ f b ≤ 2000000) : fX2_spendExactly_19_L79 K y a1 (nI o) a4 (nI d) (nI M) fu (iI (f d)) 1 = K (iI (bp (fun b => f (d - b)) M).1) := by
  have bb : ∀ M, -2000000 ≤ (bp (fun b => f (d - b)) M).1 ∧ (bp (fun b => f (d - b)) M).1 ≤ 2000000 := fun M => bp_bd M (fun x _ => hf (d - x))
  refine for_up0 (fun n i (_ : Unit) => fX2_spendExactly_19_L79 K y a1 (nI o) a4 (nI d) (nI M) n (iI (bp (fun b => f (d - b)) i).1) (nI (i + 1))) M (fun _ u => u) (fun _ => K (iI (bp (fun b => f (d - b)) M).1)) ?_ ?_ fu () (fu_big (by omega))
  · intro n i _ hi
    show fX2_spendExactly_19_L79 K y a1 (nI o) a4 (nI d) (nI M) (n + 1) _ (nI (i + 1)) = fX2_spendExactly_19_L79 K y a1 (nI o) a4 (nI d) (nI M) n _ (nI (i + 1 + 1))
    have e : nI o + nI d - nI (i + 1) = nI (o + (d - (i + 1))) := by
      rw [nI_add, show o + d = o + (d - (i + 1)) + (i + 1) by omega, nI_subn]
    rw [fX2_spendExactly_19_L79, if_neg (fun q => by have := (nI_ltI (by omega) (by omega)).mp q; omega), e, ald_n (by omega) (by decide), hy _ (by omega), inc_n]
    have h1 := bb i
    have h2 := hf (d - (i + 1))
    have e2 : mmax (iI (bp (fun b => f (d - b)) i).1) (iI (f (d - (i + 1)))) = iI (bp (fun b => f (d - b)) (i + 1)).1 := by
      show (if iI (bp (fun b => f (d - b)) i).1 < iI (f (d - (i + 1))) then iI (f (d - (i + 1))) else iI (bp (fun b => f (d - b)) i).1) = _
      rw [bp]
      by_cases q : f (d - (i + 1)) ≤ (bp (fun b => f (d - b)) i).1
      · rw [if_pos q, if_neg]
        rw [i32_lt, iI_ti (by omega) (by omega), iI_ti (by omega) (by omega)]
        omega
      · rw [if_neg q, if_pos]
        rw [i32_lt, iI_ti (by omega) (by omega), iI_ti (by omega) (by omega)]
        omega
    rw [e2]
  · intro n _
    show fX2_spendExactly_19_L79 K y a1 (nI o) a4 (nI d) (nI M) (n + 1) _ (nI (M + 1)) = _
    rw [fX2_spendExactly_19_L79, if_pos (nI_lt (by omega) (by omega))]
def mix (t : Nat) (f g : Nat → Int) (d : Nat) : Int := if d < t then f d else g d
theorem mix_lo {t : Nat} {f g : Nat → Int} {d : Nat} (h : d < t) : mix t f g d = f d := if_pos h
theorem mix_hi {t : Nat} {f g : Nat → Int} {d : Nat} (h : t ≤ d) : mix t f g d = g d := if_neg (by omega)
theorem stop_s {z : SS} {sh : Int32} {G : Nat → Nat → Int} (hG : ∀ s d, -72 ≤ G s d ∧ G s d ≤ 72) {E B n o s : Nat} (hs : s < n) (hn : n ≤ 6) (hB : B ≤ 9) (hE : E ≤ 9) (ho : o ≤ 60) (z2 : z.1 2 = sh) (z4 : z.1 4 = nI E) (z9 : ∀ s d, s < n → d ≤ B → z.2 9 (s * 11 + d) = iI (G s d)) {y : SS} (hy : XR z B o (xS G (bt sh) E s) y) (a1 : Int32) (K : SS → Option SS) : ∃ y2, XR z B o (xS G (bt sh) E (s + 1)) y2 ∧ fX2_spendExactly_19_L50 K a1 (nI o) (nI s) fu (nI B) y = K y2 := by
  have hbd : ∀ s d, s ≤ 6 → -1000432 ≤ xS G (bt sh) E s d ∧ xS G (bt sh) E s d ≤ 432 := fun s d hs => by
    have := xS_bd hG (bt sh) E s d
    omega
  have hh := for_inv (fun n i (q : SS) => fX2_spendExactly_19_L50 K a1 (nI o) (nI s) n (nI (B + 1 - i) - 1) q) (B + 1) K (fun i q => XR z B o (mix (B + 1 - i) (xS G (bt sh) E s) (xS G (bt sh) E (s + 1))) q) ?_ ?_ fu y (fu_big (by omega)) ⟨hy.1, hy.2.1, fun d hd => by rw [hy.2.2.1 d hd, mix_lo (by omega)], hy.2.2.2⟩
  · obtain ⟨y2, ⟨h1, h2, h3, h4⟩, e⟩ := hh
    refine ⟨y2, ⟨h1, h2, fun d hd => by rw [h3 d hd, mix_hi (by omega)], h4⟩, ?_⟩
    rw [Nat.sub_zero, nI_pred] at e
    exact e
  · intro n i q hi ⟨h1, h2, h3, h4⟩
    obtain ⟨d, hd⟩ : ∃ d, B + 1 - i = d + 1 := ⟨B - i, by omega⟩
    show ∃ q2, _ ∧ fX2_spendExactly_19_L50 K a1 (nI o) (nI s) (n + 1) (nI (B + 1 - i) - 1) q = fX2_spendExactly_19_L50 K a1 (nI o) (nI s) n (nI (B + 1 - (i + 1)) - 1) q2
    have hd2 : B + 1 - (i + 1) = d := by omega
    rw [hd] at h3 ⊢
    rw [hd2, nI_pred]
    have hM := (mr_le (bt sh) E d 0 s).2
    have hmay : fX5_mayHold q (nI s) (nI d) = nI (mr (bt sh) E d 0 s) := by
      have := may_n (z := q) (sh := sh) (s := s) (u := 0) (B := d) (E := E) (by omega) (by omega) (by omega) hE (by rw [h1]; exact z2) (by rw [h1]; exact z4)
      rw [show nI d - nI 0 = nI d from Int32.sub_zero _] at this
      exact this
    refine ⟨sA q 13 (o + d) (iI (xS G (bt sh) E (s + 1) d)), ⟨h1, fun j hj => by rw [sA_2, if_neg hj]; exact h2 j hj, fun d2 hd2 => ?_, fun i2 hi2 => ?_⟩, ?_⟩
    · rw [sA_2, if_pos rfl, upd_e]
      by_cases e : d2 = d
      · rw [if_pos (by rw [e]), mix_hi (by omega), e]
      · rw [if_neg (by omega), h3 d2 hd2]
        by_cases e2 : d2 < d
        · rw [mix_lo (by omega), mix_lo (by omega)]
        · rw [mix_hi (by omega), mix_hi (by omega)]
    · rw [sA_2, if_pos rfl, upd_e, if_neg (by omega)]; exact h4 i2 hi2
    · have hrow : ∀ b, b ≤ d → q.2 13 (o + b) = iI (xS G (bt sh) E s b) := fun b hb => by rw [h3 b (by omega), mix_lo (by omega)]
      rw [fX2_spendExactly_19_L50, if_neg (nI_pos (by omega)), nI_add, ald_n (by omega) (by decide), hmay, hrow d (Nat.le_refl _), top_c (y := q) (B := B) (o := o) (d := d) (M := mr (bt sh) E d 0 s) (f := xS G (bt sh) E s) hB ho (by omega) (by omega) a1 (nI s) _ hrow (fun b => by have := hbd s b (by omega); omega)]
      rw [nI_m11, nI_add, ald_n (by omega) (by decide), h2 9 (by omega), z9 s d hs (by omega), ckb_n (by omega) (by decide), nI_clamp (by omega), iI_add, Int32.sub_eq_add_neg]
      rfl
  · intro n q hq
    show fX2_spendExactly_19_L50 K a1 (nI o) (nI s) (n + 1) (nI (B + 1 - (B + 1)) - 1) q = K q
    rw [Nat.sub_self, fX2_spendExactly_19_L50, if_pos (show nI 0 - 1 < (0 : Int32) by decide)]
theorem spend_c {z : SS} {sh : Int32} {G : Nat → Nat → Int} (hG : ∀ s d, -72 ≤ G s d ∧ G s d ≤ 72) {E B n o : Nat} (hn : n ≤ 6) (hB : B ≤ 9) (hE : E ≤ 9) (ho : o ≤ 60) (z1 : z.1 1 = nI n) (z2 : z.1 2 = sh) (z4 : z.1 4 = nI E) (z9 : ∀ s d, s < n → d ≤ B → z.2 9 (s * 11 + d) = iI (G s d)) : ∃ y, fX2_spendExactly_19 z (nI B) (nI o) = some y ∧ XR z B o (xS G (bt sh) E n) y := by
  unfold fX2_spendExactly_19
  have h0 := for_inv (fun k i (q : SS) => fX2_spendExactly_19_L3 (fun c5 => fX2_spendExactly_19_L35 (nI B) (nI o) fu 0 c5) (nI B) (nI o) k (nI i) q) (B + 1) (fun c5 => fX2_spendExactly_19_L35 (nI B) (nI o) fu 0 c5) (fun i q => q.1 = z.1 ∧ (∀ j, j ≠ 13 → q.2 j = z.2 j) ∧ (∀ d, d < i → q.2 13 (o + d) = iI (xS G (bt sh) E 0 d)) ∧ ∀ i, (i < o ∨ o + 10 ≤ i) → q.2 13 i = z.2 13 i) ?_ ?_ fu z (fu_big (by omega)) ⟨rfl, fun _ _ => rfl, fun d hd => absurd hd (by omega), fun _ _ => rfl⟩
  · obtain ⟨y0, ⟨i1, i2, i3, i4⟩, e0⟩ := h0
    have hh := for_inv (fun k i (q : SS) => fX2_spendExactly_19_L35 (nI B) (nI o) k (nI i) q) n some (fun i q => XR z B o (xS G (bt sh) E i) q) ?_ ?_ fu y0 (fu_big (by omega)) ⟨i1, i2, fun d hd => i3 d (by omega), i4⟩
    · obtain ⟨y, y1, y2⟩ := hh
      exact ⟨y, Eq.trans e0 y2, y1⟩
    · intro k i q hi hq
      show ∃ q2, _ ∧ fX2_spendExactly_19_L35 (nI B) (nI o) (k + 1) (nI i) q = fX2_spendExactly_19_L35 (nI B) (nI o) k (nI (i + 1)) q2
      rw [fX2_spendExactly_19_L35, if_neg (by rw [hq.1, z1]; exact nI_ge hi (by omega)), inc_n]
      exact stop_s hG hi hn hB hE ho z2 z4 z9 hq (nI B) _
    · intro k q hq
      show fX2_spendExactly_19_L35 (nI B) (nI o) (k + 1) (nI n) q = some q
      rw [fX2_spendExactly_19_L35, if_pos (by rw [hq.1, z1]; exact Int32.le_refl _)]
  · intro k i q hi ⟨i1, i2, i3, i4⟩
    show ∃ q2, _ ∧ fX2_spendExactly_19_L3 _ (nI B) (nI o) (k + 1) (nI i) q = fX2_spendExactly_19_L3 _ (nI B) (nI o) k (nI (i + 1)) q2
    refine ⟨sA q 13 (o + i) (iI (xS G (bt sh) E 0 i)), ⟨i1, fun j hj => by rw [sA_2, if_neg hj]; exact i2 j hj, fun d hd => ?_, fun i2 hi2 => ?_⟩, ?_⟩
    · rw [sA_2, if_pos rfl, upd_e]
      by_cases e : d = i
      · rw [if_pos (by rw [e]), e]
      · rw [if_neg (by omega)]; exact i3 d (by omega)
    · rw [sA_2, if_pos rfl, upd_e, if_neg (by omega)]; exact i4 i2 hi2
    · rw [fX2_spendExactly_19_L3, if_neg (fun q => by have := (nI_ltI (by omega) (by omega)).mp q; omega), nI_add, inc_n, nI_clamp (by omega)]
      simp only [jn_e, ckb_n (show o + i < 70 by omega) (show 70 < 2 ^ 31 by decide)]
      rw [xS]
      by_cases e : i = 0
      · rw [if_pos (by rw [e]; rfl), if_pos e]; rfl
      · rw [if_neg (nI_ne0 (by omega) (by omega)), if_neg e]; rfl
  · intro k q hq
    show fX2_spendExactly_19_L3 _ (nI B) (nI o) (k + 1) (nI (B + 1)) q = _
    rw [fX2_spendExactly_19_L3, if_pos (nI_lt (by omega) (by omega))]
