/-! rival: the class's duel -/
theorem rv_late {c s : SS} (hW : WOK c) (cl : Nat → Bool) (h2 : s.2 2 = c.2 2) (h8 : ∀ p, p < 8 → s.2 8 p = ndv c cl p) (d : Nat → Nat) (hd : ∀ p, p < 8 → ∃ y : Int32, s.2 17 (va c p) = y ∧ y.toInt ≤ 99 ∧ (bt (c.1 5) p = true → y = nI (d (va c p)) ∧ d (va c p) ≤ 99)) (late : Nat) (hl : late ≤ 100) : fX4_ridersLate_24 s (nI late) = some (bs (rdB c cl d late)) := by
  have hstep : ∀ p, p < 8 → (s.2 17 (va c p) < ndv c cl p + nI late ↔ rdB c cl d late p = false) := by
    intro p hp
    obtain ⟨y, y1, y2, y3⟩ := hd p hp
    rw [y1]
    unfold rdB
    by_cases hb : bt (c.1 5) p = true
    · obtain ⟨z1, z2⟩ := y3 hb
      rw [z1, nd_le hW cl hp hl z2 (fun _ _ => trivial)]
      cases hc : cl (va c p) <;> simp [hb]
    · have hb2 : bt (c.1 5) p = false := by cases h : bt (c.1 5) p <;> simp_all
      rw [hb2]
      simp only [Bool.false_and, iff_true]
      have : ndv c cl p = 1000 := by unfold ndv; rw [if_neg (fun q => hb q.1)]
      rw [this, i32_lt]
      have el : (nI late).toInt = (late : Int) := nI_ti (by omega)
      have e0 : (1000 : Int32).toInt = 1000 := rfl
      rw [add_ti (by rw [e0, el]; omega) (by rw [e0, el]; omega), e0, el]
      omega
  unfold fX4_ridersLate_24 bs
  refine for_up0 (fun n i b => fX4_ridersLate_24_L5 s (nI late) n b (nI i)) 8 (fun p b => b ||| (if rdB c cl d late p then (1 : Int32) <<< (nI p &&& 31) else 0)) some ?_ ?_ fu 0 (fu_big (by omega))
  · intro n i b hi
    show fX4_ridersLate_24_L5 s (nI late) (n + 1) b (nI i) = fX4_ridersLate_24_L5 s (nI late) n _ (nI (i + 1))
    obtain ⟨⟨g1, g2, g3⟩, -⟩ := hW.2.2.2.2.2.2.2.2 i hi
    rw [fX4_ridersLate_24_L5, if_neg (n8 hi), ald_n hi (by decide), ald_n hi (by decide), h2, g1, ald_n g2 (by decide), h8 i hi, inc_n]
    simp only [jn_e]
    by_cases hc : s.2 17 (va c i) < ndv c cl i + nI late
    · rw [if_pos hc, (hstep i hi).mp hc]; simp only [Bool.false_eq_true, if_false, or_0]
    · rw [if_neg hc]
      have : rdB c cl d late i = true := by
        cases h : rdB c cl d late i with
        | true => rfl
        | false => exact absurd ((hstep i hi).mpr h) hc
      rw [this]; simp only [if_true]
  · intro n b
    show fX4_ridersLate_24_L5 s (nI late) (n + 1) b (nI 8) = some b
    rw [fX4_ridersLate_24_L5, if_pos (show (8 : Int32) ≤ nI 8 by decide)]
def gI (g : Bool) : Int32 := if g then 1 else 0
def rv_pk (p : rvP) : Int := (p.1 + 500) * 1000 + p.2 + 500
theorem rv_dm {p : rvP} (h : PB p) : (iI (rv_pk p) / 1000) = iI (p.1 + 500) ∧ irm (iI (rv_pk p)) 1000 = iI (p.2 + 500) := by
  obtain ⟨⟨h1, h2⟩, h3, h4⟩ := h
  have e : (iI (rv_pk p)).toInt = rv_pk p := iI_ti (by unfold rv_pk; omega) (by unfold rv_pk; omega)
  obtain ⟨d1, d2⟩ := irm_ti (x := iI (rv_pk p)) (y := 1000) (by rw [e]; unfold rv_pk; omega) (by decide)
  rw [e, show (1000 : Int32).toInt = 1000 from rfl] at d1 d2
  constructor
  · apply Int32.toInt_inj.mp
    rw [d2, iI_ti (by omega) (by omega)]
    unfold rv_pk
    omega
  · apply Int32.toInt_inj.mp
    rw [d1, iI_ti (by omega) (by omega)]
    unfold rv_pk
    omega
theorem rv_better {g : Bool} {p q : rvP} (hp : PB p) (hq : PB q) : (fX0_better (gI g) (iI (rv_pk p)) (iI (rv_pk q)) = 0) ↔ kk g p ≤ kk g q := by
  obtain ⟨a1, a2⟩ := rv_dm hp
  obtain ⟨b1, b2⟩ := rv_dm hq
  obtain ⟨⟨h1, h2⟩, h3, h4⟩ := hp
  obtain ⟨⟨k1, k2⟩, k3, k4⟩ := hq
  unfold fX0_better
  rw [a1, a2, b1, b2]
  cases g with
  | true =>
    rw [if_neg (show ¬ gI true = 0 by decide)]
    show _ ↔ p.1 ≤ q.1
    by_cases z : p.1 ≤ q.1
    · rw [if_pos ((iI_le (by omega) (by omega) (by omega) (by omega)).mpr (by omega))]
      exact ⟨fun _ => z, fun _ => rfl⟩
    · rw [if_neg (fun w => z (by have := (iI_le (by omega) (by omega) (by omega) (by omega)).mp w; omega))]
      exact ⟨fun w => absurd w (by decide), fun w => absurd w z⟩
  | false =>
    rw [if_pos (show gI false = 0 by decide)]
    show _ ↔ p.2 ≤ q.2
    by_cases z : p.2 ≤ q.2
    · rw [if_pos ((iI_le (by omega) (by omega) (by omega) (by omega)).mpr (by omega))]
      exact ⟨fun _ => z, fun _ => rfl⟩
    · rw [if_neg (fun w => z (by have := (iI_le (by omega) (by omega) (by omega) (by omega)).mp w; omega))]
      exact ⟨fun w => absurd w (by decide), fun w => absurd w z⟩
def rv_cS (o : Option (Nat × rvP)) : Int32 := match o with
  | none => -6
  | some q => nI q.1
def rv_cO (o : Option (Nat × rvP)) : Int32 := match o with
  | none => 0
  | some q => iI (rv_pk q.2)
def rv_cF (o : Option Nat) : Int32 := match o with
  | none => -6
  | some s => nI s
theorem rv_ne6 {k : Nat} (h : k < 1000) : ¬ nI k = -6 := by
  intro q
  have := congrArg Int32.toInt q
  rw [nI_ti (by omega), show (-6 : Int32).toInt = -6 from rfl] at this
  omega
theorem rv_move {z : SS} {n : Nat} {g : Bool} {v : Nat → rvP} {can : Nat → Bool} {nx : Nat → Nat} (hn : n ≤ 6) (z1 : z.1 1 = nI n) (z18 : ∀ s, s < n → z.2 18 s = if can s = true then nI (nx s) else -6) (hnx : ∀ s, s < n → can s = true → nx s < 462) (hv : ∀ s, s < n → can s = true → z.2 (if g then 16 else 15) (nx s) = iI (rv_pk (v s))) (hb : ∀ s, PB (v s)) : ∃ y, fX0_findMove z (gI g) = some y ∧ y.2 = z.2 ∧ (∀ k, k ≠ 10 → k ≠ 11 → y.1 k = z.1 k) ∧ y.1 11 = rv_cS (fm g v can n) ∧ y.1 10 = rv_cO (fm g v can n) := by
  unfold fX0_findMove
  have hh := for_inv (fun f i (q : SS) => fX0_findMove_L13 (gI g) f (nI i) q) n some (fun i q => q.2 = z.2 ∧ (∀ k, k ≠ 10 → k ≠ 11 → q.1 k = z.1 k) ∧ q.1 11 = rv_cS (fm g v can i) ∧ q.1 10 = rv_cO (fm g v can i)) ?_ ?_ fu (sF (sF z 11 (-6)) 10 0) (fu_big (by omega)) ⟨rfl, fun k a b => by rw [sF_1, if_neg a, sF_1, if_neg b], by rw [sF_1, if_neg (by omega), sF_1, if_pos rfl]; rfl, by rw [sF_1, if_pos rfl]; rfl⟩
  · obtain ⟨y, y1, y2⟩ := hh
    exact ⟨y, y2, y1⟩
  · intro f i q hi ⟨g1, g2, g3, g4⟩
    show ∃ q2, _ ∧ fX0_findMove_L13 (gI g) (f + 1) (nI i) q = fX0_findMove_L13 (gI g) f (nI (i + 1)) q2
    rw [fX0_findMove_L13, g2 1 (by omega) (by omega), z1, if_neg (nI_ge hi (by omega)), g1, ald_n (show i < 6 by omega) (by decide), z18 i hi, inc_n, fm]
    by_cases hc : can i = true
    · rw [if_pos hc, if_pos hc]
      have hlt := hnx i hi hc
      have rd : ∀ K : Int32 → Option SS, (if gI g = 0 then ald 462 (z.2 15) (nI (nx i)) K else ald 462 (z.2 16) (nI (nx i)) K) = K (iI (rv_pk (v i))) := by
        intro K
        have := hv i hi hc
        cases g with
        | true => rw [if_neg (show ¬ gI true = 0 by decide), ald_n hlt (by decide)]; rw [show z.2 16 (nx i) = _ from this]
        | false => rw [if_pos (show gI false = 0 by decide), ald_n hlt (by decide)]; rw [show z.2 15 (nx i) = _ from this]
      simp only [jn_e, ald_n (show i < 6 by omega) (show 6 < 2 ^ 31 by decide), z18 i hi, hc, if_true]
      rw [if_neg (nI_pos (by omega)), rd]
      have take : ∃ q2 : SS, (q2.2 = z.2 ∧ (∀ k, k ≠ 10 → k ≠ 11 → q2.1 k = z.1 k) ∧ q2.1 11 = rv_cS (some (i, v i)) ∧ q2.1 10 = rv_cO (some (i, v i))) ∧ fX0_findMove_L13 (gI g) f (nI (i + 1)) (sF (sF q 11 (nI i)) 10 (iI (rv_pk (v i)))) = fX0_findMove_L13 (gI g) f (nI (i + 1)) q2 := ⟨sF (sF q 11 (nI i)) 10 (iI (rv_pk (v i))), ⟨g1, fun k a b => by rw [sF_1, if_neg a, sF_1, if_neg b]; exact g2 k a b, by rw [sF_1, if_neg (by omega), sF_1, if_pos rfl]; rfl, by rw [sF_1, if_pos rfl]; rfl⟩, rfl⟩
      cases hf : fm g v can i with
      | none =>
        rw [hf] at g3 g4
        rw [g3, fmS_n, if_pos (show rv_cS none = -6 from rfl)]
        exact take
      | some q0 =>
        obtain ⟨b1, b2⟩ := fm_in (Q := PB) hb i q0 hf
        rw [hf] at g3 g4
        rw [g3, fmS_s, if_neg (show ¬ rv_cS (some q0) = -6 from rv_ne6 (by omega)), g4]
        have hbt := rv_better (g := g) (hb i) b1
        by_cases hk : kk g q0.2 < kk g (v i)
        · rw [if_pos hk, if_neg (show ¬ fX0_better (gI g) (iI (rv_pk (v i))) (rv_cO (some q0)) = 0 from fun w => by have := hbt.mp w; omega)]
          exact take
        · rw [if_neg hk, if_pos (show fX0_better (gI g) (iI (rv_pk (v i))) (rv_cO (some q0)) = 0 from hbt.mpr (by omega))]
          exact ⟨q, ⟨g1, g2, g3, g4⟩, rfl⟩
    · rw [if_neg hc, if_neg hc]
      simp only [jn_e]
      rw [if_pos (show (-6 : Int32) < 0 by decide)]
      exact ⟨q, ⟨g1, g2, g3, g4⟩, rfl⟩
  · intro f q ⟨g1, g2, g3, g4⟩
    show fX0_findMove_L13 (gI g) (f + 1) (nI n) q = some q
    rw [fX0_findMove_L13, g2 1 (by omega) (by omega), z1, if_pos (Int32.le_refl _)]
theorem fm_some {g : Bool} {v : Nat → rvP} {can : Nat → Bool} : ∀ i, (∃ s, s < i ∧ can s = true) → ∃ q, fm g v can i = some q := by
  intro i
  induction i with
  | zero => rintro ⟨s, h, -⟩; omega
  | succ i ih =>
    rintro ⟨s, h1, h2⟩
    rw [fm]
    by_cases hc : can i = true
    · rw [if_pos hc]
      cases fm g v can i with
      | none => exact ⟨_, fmS_n g i (v i)⟩
      | some q =>
        rw [fmS_s]
        by_cases hk : kk g q.2 < kk g (v i)
        · rw [if_pos hk]; exact ⟨_, rfl⟩
        · rw [if_neg hk]; exact ⟨_, rfl⟩
    · rw [if_neg hc]
      exact ih ⟨s, by
        by_cases e : s = i
        · rw [e] at h2; exact absurd h2 hc
        · omega, h2⟩
theorem rv_tk {g : Bool} {q : Nat × rvP} {b : rvP} (hq : PB q.2) (hb : PB b) : (if fX0_better (gI g) (rv_cO (some q)) (iI (rv_pk b)) = 0 then iI (rv_pk b) else rv_cO (some q)) = iI (rv_pk (tk g (some q) b).1) := by
  have h := rv_better (g := g) hq hb
  rw [tk_s]
  by_cases hk : kk g b < kk g q.2
  · rw [if_pos hk, if_neg (show ¬ fX0_better (gI g) (rv_cO (some q)) (iI (rv_pk b)) = 0 from fun w => by have := h.mp w; omega)]
    rfl
  · rw [if_neg hk, if_pos (show fX0_better (gI g) (rv_cO (some q)) (iI (rv_pk b)) = 0 from h.mpr (by omega))]
