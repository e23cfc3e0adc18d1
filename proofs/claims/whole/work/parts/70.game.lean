/-! rival: the game as it is, and the numbers of rows of delays -/
abbrev rvP : Type := Int × Int
def kk (g : Bool) (p : rvP) : Int := if g then p.1 else p.2
def fmS (g : Bool) (o : Option (Nat × rvP)) (i : Nat) (p : rvP) : Option (Nat × rvP) := match o with
  | none => some (i, p)
  | some q => if kk g q.2 < kk g p then some (i, p) else some q
theorem fmS_n (g : Bool) (i : Nat) (p : rvP) : fmS g none i p = some (i, p) := rfl
theorem fmS_s (g : Bool) (q : Nat × rvP) (i : Nat) (p : rvP) : fmS g (some q) i p = if kk g q.2 < kk g p then some (i, p) else some q := rfl
def fm (g : Bool) (v : Nat → rvP) (can : Nat → Bool) : Nat → Option (Nat × rvP)
  | 0 => none
  | i + 1 => if can i = true then fmS g (fm g v can i) i (v i) else fm g v can i
def tk (g : Bool) (mv : Option (Nat × rvP)) (b : rvP) : rvP × Option Nat := match mv with
  | none => (b, none)
  | some q => if kk g b < kk g q.2 then (q.2, some q.1) else (b, none)
theorem tk_n (g : Bool) (b : rvP) : tk g none b = (b, none) := rfl
theorem tk_s (g : Bool) (q : Nat × rvP) (b : rvP) : tk g (some q) b = if kk g b < kk g q.2 then (q.2, some q.1) else (b, none) := rfl
def rn (g : Bool) (v : Nat → rvP) (can : Nat → Bool) (b : rvP) : Nat → rvP × Option Nat
  | 0 => (b, none)
  | i + 1 => if can i = true ∧ kk g (rn g v can b i).1 < kk g (v i) then (v i, some i) else rn g v can b i
theorem rn_tk (g : Bool) (v : Nat → rvP) (can : Nat → Bool) (b : rvP) : ∀ i, rn g v can b i = tk g (fm g v can i) b := by
  intro i
  induction i with
  | zero => rfl
  | succ i ih =>
    rw [rn, fm, ih]
    generalize fm g v can i = o
    generalize v i = p
    by_cases hc : can i = true
    · rw [if_pos hc]
      cases o with
      | none =>
        rw [fmS_n, tk_n, tk_s]
        by_cases q : kk g b < kk g p
        · rw [if_pos ⟨hc, q⟩, if_pos q]
        · rw [if_neg (fun z => q z.2), if_neg q]
      | some q =>
        rw [fmS_s, tk_s]
        by_cases h1 : kk g b < kk g q.2
        · rw [if_pos h1]
          by_cases h2 : kk g q.2 < kk g p
          · rw [if_pos ⟨hc, h2⟩, if_pos h2, tk_s, if_pos (show kk g b < kk g p by omega)]
          · rw [if_neg (fun z => h2 z.2), if_neg h2, tk_s, if_pos h1]
        · rw [if_neg h1]
          by_cases h2 : kk g q.2 < kk g p
          · rw [if_pos h2, tk_s]
            by_cases h3 : kk g b < kk g p
            · rw [if_pos ⟨hc, h3⟩, if_pos h3]
            · rw [if_neg (fun z => h3 z.2), if_neg h3]
          · rw [if_neg h2, if_neg (fun z => by have z2 : kk g b < kk g p := z.2; omega), tk_s, if_neg h1]
    · rw [if_neg (fun z => hc z.1), if_neg hc]
theorem fm_no {g : Bool} {v : Nat → rvP} {can : Nat → Bool} : ∀ i, (∀ s, s < i → can s = false) → fm g v can i = none := by
  intro i
  induction i with
  | zero => intro _; rfl
  | succ i ih =>
    intro h
    rw [fm, h i (by omega), if_neg (by decide)]
    exact ih (fun s hs => h s (by omega))
theorem fm_cg {g : Bool} {v v2 : Nat → rvP} {can can2 : Nat → Bool} : ∀ i, (∀ s, s < i → can s = can2 s) → (∀ s, s < i → can s = true → v s = v2 s) → fm g v can i = fm g v2 can2 i := by
  intro i
  induction i with
  | zero => intro _ _; rfl
  | succ i ih =>
    intro h1 h2
    rw [fm, fm, ih (fun s hs => h1 s (by omega)) (fun s hs => h2 s (by omega)), ← h1 i (by omega)]
    cases hc : can i with
    | false => rw [if_neg (by decide), if_neg (by decide)]
    | true => rw [if_pos rfl, if_pos rfl, h2 i (by omega) hc]
theorem fm_in {g : Bool} {v : Nat → rvP} {can : Nat → Bool} {Q : rvP → Prop} (h : ∀ s, Q (v s)) : ∀ i q, fm g v can i = some q → Q q.2 ∧ q.1 < i := by
  intro i
  induction i with
  | zero => intro q hq; cases hq
  | succ i ih =>
    intro q hq
    rw [fm] at hq
    have new : ∀ q : Nat × rvP, some (i, v i) = some q → Q q.2 ∧ q.1 < i + 1 := by
      intro q e
      have e2 : (i, v i) = q := Option.some.inj e
      subst e2
      exact ⟨h i, Nat.lt_succ_self i⟩
    by_cases hc : can i = true
    · rw [if_pos hc] at hq
      cases hf : fm g v can i with
      | none =>
        rw [hf, fmS_n] at hq
        exact new q hq
      | some q2 =>
        rw [hf, fmS_s] at hq
        by_cases h1 : kk g q2.2 < kk g (v i)
        · rw [if_pos h1] at hq
          exact new q hq
        · rw [if_neg h1] at hq
          have e2 : q2 = q := Option.some.inj hq
          subst e2
          have := ih q2 hf
          exact ⟨this.1, by omega⟩
    · rw [if_neg hc] at hq
      have := ih q hq
      exact ⟨this.1, by omega⟩
theorem tk_in {g : Bool} {v : Nat → rvP} {can : Nat → Bool} {Q : rvP → Prop} (h : ∀ s, Q (v s)) {b : rvP} (hb : Q b) (i : Nat) : Q (tk g (fm g v can i) b).1 := by
  cases hf : fm g v can i with
  | none => exact hb
  | some q =>
    rw [tk_s]
    by_cases h1 : kk g b < kk g q.2
    · rw [if_pos h1]; exact (fm_in h i q hf).1
    · rw [if_neg h1]; exact hb
/-- one breath more at a stop: the delays -/
def up (D : Nat → Nat) (s : Nat) : Nat → Nat := fun t => if s ≤ t then D t + 1 else D t
def dd (D : Nat → Nat) (s : Nat) : Nat := D s - (if s = 0 then 0 else D (s - 1))
def rD (c : SS) (D : Nat → Nat) (p : Nat) : Bool := rdB c (bt (c.1 2)) D 0 p
def heD (c : SS) (D : Nat → Nat) : rvP := (sm 8 (fun p => if bt (c.1 5) p then pv c p (rD c D p) else 0), sm 8 (fun p => if rD c D p then (c.2 6 p).toInt else 0))
def cn2 (c : SS) (D : Nat → Nat) (s : Nat) : Bool := !bt (c.1 2) s && decide (dd D s < vE c)
/-- what comes of it on the god's turn and on the rival's, nobody having just passed; so many breaths are left -/
def gV (c : SS) : Nat → (Nat → Nat) → rvP × rvP
  | 0, D => (heD c D, heD c D)
  | r + 1, D =>
    ((tk true (fm true (fun s => (gV c r (up D s)).2) (cn2 c D) (vn c)) (tk false (fm false (fun s => (gV c r (up D s)).1) (cn2 c D) (vn c)) (heD c D)).1).1,
     (tk false (fm false (fun s => (gV c r (up D s)).1) (cn2 c D) (vn c)) (tk true (fm true (fun s => (gV c r (up D s)).2) (cn2 c D) (vn c)) (heD c D)).1).1)
def gF (c : SS) : Nat → (Nat → Nat) → Option Nat
  | 0, _ => none
  | r + 1, D => (tk true (fm true (fun s => (gV c r (up D s)).2) (cn2 c D) (vn c)) (tk false (fm false (fun s => (gV c r (up D s)).1) (cn2 c D) (vn c)) (heD c D)).1).2
theorem gV_no {c : SS} {r : Nat} {D : Nat → Nat} (h : r = 0 ∨ ∀ s, s < vn c → cn2 c D s = false) : gV c r D = (heD c D, heD c D) ∧ gF c r D = none := by
  cases r with
  | zero => exact ⟨rfl, rfl⟩
  | succ r =>
    have h2 := h.resolve_left (by omega)
    rw [gV, gF, fm_no _ h2, fm_no _ h2]
    exact ⟨rfl, rfl⟩
def PB (p : rvP) : Prop := (-72 ≤ p.1 ∧ p.1 ≤ 72) ∧ -72 ≤ p.2 ∧ p.2 ≤ 72
theorem heD_bd {c : SS} (hW : WOK c) (D : Nat → Nat) : PB (heD c D) := by
  constructor
  · have := sm_bd (b := 9) (f := fun p => if bt (c.1 5) p then pv c p (rD c D p) else 0) 8 (fun p hp => by
      have := pv_bd hW hp (rD c D p)
      show -9 ≤ (if bt (c.1 5) p then pv c p (rD c D p) else 0) ∧ (if bt (c.1 5) p then pv c p (rD c D p) else 0) ≤ 9
      split
      · exact this
      · omega)
    exact this
  · have := sm_bd (b := 9) (f := fun p => if rD c D p then (c.2 6 p).toInt else 0) 8 (fun p hp => by
      obtain ⟨-, -, ⟨-, -, g8⟩, -⟩ := hW.2.2.2.2.2.2.2.2 p hp
      show -9 ≤ (if rD c D p then (c.2 6 p).toInt else 0) ∧ (if rD c D p then (c.2 6 p).toInt else 0) ≤ 9
      split
      · exact g8
      · omega)
    exact this
theorem gV_bd {c : SS} (hW : WOK c) : ∀ r D, PB (gV c r D).1 ∧ PB (gV c r D).2 := by
  intro r
  induction r with
  | zero => intro D; exact ⟨heD_bd hW D, heD_bd hW D⟩
  | succ r ih =>
    intro D
    rw [gV]
    exact ⟨tk_in (Q := PB) (fun s => (ih (up D s)).2) (tk_in (Q := PB) (fun s => (ih (up D s)).1) (heD_bd hW D) _) _, tk_in (Q := PB) (fun s => (ih (up D s)).1) (tk_in (Q := PB) (fun s => (ih (up D s)).2) (heD_bd hW D) _) _⟩
theorem heD_cg {c : SS} (hW : WOK c) {D D2 : Nat → Nat} (h : ∀ t, t < vn c → D t = D2 t) : heD c D = heD c D2 := by
  have e : ∀ p, p < 8 → rD c D p = rD c D2 p := fun p hp => by
    obtain ⟨⟨g1, g2, g3⟩, -⟩ := hW.2.2.2.2.2.2.2.2 p hp
    unfold rD rdB
    cases hb : bt (c.1 5) p with
    | false => rfl
    | true => rw [h _ (g3 hb)]
  unfold heD
  rw [sm_cg 8 (f := fun p => if bt (c.1 5) p then pv c p (rD c D p) else 0) (g := fun p => if bt (c.1 5) p then pv c p (rD c D2 p) else 0) (fun p hp => by rw [e p hp]), sm_cg 8 (f := fun p => if rD c D p then (c.2 6 p).toInt else 0) (g := fun p => if rD c D2 p then (c.2 6 p).toInt else 0) (fun p hp => by rw [e p hp])]
theorem gV_cg {c : SS} (hW : WOK c) : ∀ r D D2, (∀ t, t < vn c → D t = D2 t) → gV c r D = gV c r D2 ∧ gF c r D = gF c r D2 := by
  intro r
  induction r with
  | zero => intro D D2 h; rw [gV, gV, heD_cg hW h]; exact ⟨rfl, rfl⟩
  | succ r ih =>
    intro D D2 h
    have e1 : ∀ s, s < vn c → cn2 c D s = cn2 c D2 s := fun s hs => by
      unfold cn2 dd
      rw [h s hs]
      by_cases q : s = 0
      · rw [if_pos q, if_pos q]
      · rw [if_neg q, if_neg q, h (s - 1) (by omega)]
    have e2 : ∀ s, gV c r (up D s) = gV c r (up D2 s) := fun s => (ih _ _ (fun t ht => by unfold up; rw [h t ht])).1
    rw [gV, gV, gF, gF, heD_cg hW h, fm_cg (g := true) (can := cn2 c D) (can2 := cn2 c D2) (v := fun s => (gV c r (up D s)).2) (v2 := fun s => (gV c r (up D2 s)).2) (vn c) e1 (fun s _ _ => by rw [e2]), fm_cg (g := false) (can := cn2 c D) (can2 := cn2 c D2) (v := fun s => (gV c r (up D s)).1) (v2 := fun s => (gV c r (up D2 s)).1) (vn c) e1 (fun s _ _ => by rw [e2])]
    exact ⟨rfl, rfl⟩
