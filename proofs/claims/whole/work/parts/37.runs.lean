/-! runners -/
def tnS (c : SS) (d : Nat → Nat) (p later : Nat) (t : Int32) : Int32 := (if rdB c (bt (c.1 2)) d 0 p then 10 - t else 0) + (if rdB c (bt (c.1 2)) d later p then t else 0)
theorem nd_lt0 {c : SS} (hW : WOK c) {p x : Nat} (hp : p < 8) (hx : x ≤ 99) (hb : bt (c.1 5) p = true) (d : Nat → Nat) (hd : d (va c p) = x) {late : Nat} (hl : late ≤ 100) : (nI x < ndv c (bt (c.1 2)) p + nI late) ↔ rdB c (bt (c.1 2)) d late p = false := by
  rw [nd_le hW (bt (c.1 2)) hp hl hx (fun _ _ => trivial)]
  unfold rdB
  rw [hd]
  cases hc : bt (c.1 2) (va c p) <;> simp [hb]
theorem tenths_c {c z : SS} (hW : WOK c) (h8 : ∀ p, p < 8 → z.2 8 p = ndv c (bt (c.1 2)) p) {p x later : Nat} (hp : p < 8) (hx : x ≤ 99) (hb : bt (c.1 5) p = true) (d : Nat → Nat) (hd : d (va c p) = x) (hl : later ≤ 100) (t : Int32) : fX4_tenths z (nI p) (nI x) (nI later) t = some (tnS c d p later t) := by
  unfold fX4_tenths tnS
  have e0 := nd_lt0 hW hp hx hb d hd (late := 0) (by omega)
  have e1 := nd_lt0 hW hp hx hb d hd hl
  have ez : ndv c (bt (c.1 2)) p + nI 0 = ndv c (bt (c.1 2)) p := by rw [show nI 0 = 0 from rfl, Int32.add_zero]
  rw [ez] at e0
  simp only [ald_n hp (show 8 < 2 ^ 31 by decide), jn_e, h8 p hp]
  by_cases g0 : nI x < ndv c (bt (c.1 2)) p
  · rw [if_pos g0, e0.mp g0]
    by_cases g1 : nI x < ndv c (bt (c.1 2)) p + nI later
    · rw [if_pos g1, e1.mp g1]; rfl
    · rw [if_neg g1]
      have : rdB c (bt (c.1 2)) d later p = true := by
        cases h : rdB c (bt (c.1 2)) d later p with
        | true => rfl
        | false => exact absurd (e1.mpr h) g1
      rw [this]; rfl
  · rw [if_neg g0]
    have h0 : rdB c (bt (c.1 2)) d 0 p = true := by
      cases h : rdB c (bt (c.1 2)) d 0 p with
      | true => rfl
      | false => exact absurd (e0.mpr h) g0
    rw [h0]
    by_cases g1 : nI x < ndv c (bt (c.1 2)) p + nI later
    · rw [if_pos g1, e1.mp g1]; rfl
    · rw [if_neg g1]
      have : rdB c (bt (c.1 2)) d later p = true := by
        cases h : rdB c (bt (c.1 2)) d later p with
        | true => rfl
        | false => exact absurd (e1.mpr h) g1
      rw [this]; rfl
theorem tenths_m {c z : SS} {d : Nat → Nat} (hW : WOK c) (hL : ML2 c z (c.1 2) d) {p later : Nat} (hp : p < 8) (hl : later ≤ 100) (t : Int32) : ∃ r, fX7_tenthsOf z (nI p) (nI later) t = some r ∧ (bt (c.1 5) p = true → r = tnS c d p later t) := by
  obtain ⟨r0, a1, a2⟩ := rides_m hW hL hp (late := 0) (by omega)
  obtain ⟨r1, b1, b2⟩ := rides_m hW hL hp hl
  have a1' : fX7_rides z (nI p) 0 = some r0 := a1
  unfold fX7_tenthsOf tnS
  rw [a1', Option.bind_some, jn_e]
  show ∃ r, (if r0 = 0 then _ else _) = some r ∧ _
  rw [b1]
  simp only [Option.bind_some, jn_e]
  by_cases h0 : r0 = 0
  · rw [if_pos h0]
    by_cases h1 : r1 = 0
    · rw [if_pos h1]
      refine ⟨_, rfl, fun hb => ?_⟩
      have q0 := a2 hb; have q1 := b2 hb
      rw [h0] at q0; rw [h1] at q1
      have k0 := ite0.mp q0.symm; have k1 := ite0.mp q1.symm
      rw [if_neg k0, if_neg k1]
    · rw [if_neg h1]
      refine ⟨_, rfl, fun hb => ?_⟩
      have q0 := a2 hb; have q1 := b2 hb
      rw [h0] at q0
      have k0 := ite0.mp q0.symm
      have k1 : rdB c (bt (c.1 2)) d later p = true := by
        cases h : rdB c (bt (c.1 2)) d later p with
        | true => rfl
        | false => rw [h] at q1; exact absurd q1 h1
      rw [if_neg k0, if_pos k1]
  · rw [if_neg h0]
    by_cases h1 : r1 = 0
    · rw [if_pos h1]
      refine ⟨_, rfl, fun hb => ?_⟩
      have q0 := a2 hb; have q1 := b2 hb
      rw [h1] at q1
      have k1 := ite0.mp q1.symm
      have k0 : rdB c (bt (c.1 2)) d 0 p = true := by
        cases h : rdB c (bt (c.1 2)) d 0 p with
        | true => rfl
        | false => rw [h] at q0; exact absurd q0 h0
      rw [if_pos k0, if_neg k1]
    · rw [if_neg h1]
      refine ⟨_, rfl, fun hb => ?_⟩
      have q0 := a2 hb; have q1 := b2 hb
      have k0 : rdB c (bt (c.1 2)) d 0 p = true := by
        cases h : rdB c (bt (c.1 2)) d 0 p with
        | true => rfl
        | false => rw [h] at q0; exact absurd q0 h0
      have k1 : rdB c (bt (c.1 2)) d later p = true := by
        cases h : rdB c (bt (c.1 2)) d later p with
        | true => rfl
        | false => rw [h] at q1; exact absurd q1 h1
      rw [if_pos k0, if_pos k1]
/-- lowest terms, by both, small numbers one by one -/
def prt (u : Nat) : Int32 := nI u - 720
theorem part_all : ∀ u : Fin 1441, (fX6_partOf (prt u.val) 10 0 = fX7_lowest (prt u.val).toInt64 10 0 ∧ (fX6_partOf (prt u.val) 10 0).isSome = true) ∧ (fX6_partOf (prt u.val) 10 1 = fX7_lowest (prt u.val).toInt64 10 1 ∧ (fX6_partOf (prt u.val) 10 1).isSome = true) := by decide +kernel
