/-! closing -/
theorem dl_0 (cl : Nat → Bool) : ∀ s, dlS cl (fun _ => 0) s = 0 := by
  intro s
  induction s with
  | zero => rfl
  | succ s ih =>
    show dlS cl (fun _ => 0) s + _ = 0
    rw [ih]
    split <;> rfl
theorem dly_0 (cl : Nat → Bool) : dly cl (fun _ => 0) = fun _ => 0 := by
  funext s; exact dl_0 cl (s + 1)
def clD (c : SS) : SS := lp 6 (fun i s => sA s 20 (0 + i) 0) c
theorem clD_f (c : SS) : (clD c).1 = c.1 ∧ (∀ j, j ≠ 20 → (clD c).2 j = c.2 j) ∧ ∀ j, j < 6 → (clD c).2 20 j = 0 := by
  obtain ⟨h1, h2, h3⟩ := lpA 20 0 6 (fun _ => 0) c
  refine ⟨h1, h2, fun p hp => ?_⟩
  have := h3 p
  rw [if_pos (by omega)] at this
  exact this
theorem clearD_c (c : SS) : fX6_clearDelays c = some (clD c) := by
  unfold fX6_clearDelays clD
  refine for_up0 (fun n i s => fX6_clearDelays_L2 n (nI i) s) 6 (fun i s => sA s 20 (0 + i) 0) some ?_ ?_ fu c (fu_big (by omega))
  · intro n i s hi
    show fX6_clearDelays_L2 (n + 1) (nI i) s = fX6_clearDelays_L2 n (nI (i + 1)) _
    rw [fX6_clearDelays_L2, if_neg (n6 hi), ckb_n hi (by decide), inc_n, nI_clamp (by omega), Nat.zero_add]
  · intro n s
    show fX6_clearDelays_L2 (n + 1) (nI 6) s = some s
    rw [fX6_clearDelays_L2, if_pos (show (6 : Int32) ≤ nI 6 by decide)]
theorem pow_n {n : Nat} (h : n ≤ 6) : (1 : Int32) <<< (nI n &&& 31) = nI (2 ^ n) := by
  have : n = 0 ∨ n = 1 ∨ n = 2 ∨ n = 3 ∨ n = 4 ∨ n = 5 ∨ n = 6 := by omega
  rcases this with rfl | rfl | rfl | rfl | rfl | rfl | rfl <;> decide
/-- the good with nothing held, these closed -/
def cgv (c : SS) (i : Nat) : Int32 := gdS c (bt (c.1 5)) (rdB c (bt (c.1 2 ||| nI i)) (fun _ => 0) 0)
def csel (c : SS) (k : Int32) (i : Nat) : Prop := fJ6_bitCount_0f7a4 (nI i) = k ∧ (nI i &&& c.1 2) = 0
/-- most and found, behind i sets -/
def CR (c : SS) (k : Int32) (i : Nat) (mo fo : Int32) : Prop := ∃ (b : Nat → Bool), (∀ j, b j = true ↔ csel c k j) ∧ (mo, fo) = lp i (fun j q => if b j then (if q.2 = -6 ∨ q.1 < cgv c j then (cgv c j, nI j) else q) else q) ((0, -6) : Int32 × Int32) ∧ (fo = -6 ∨ ∃ j, j < i ∧ fo = nI j)
theorem CR.u {c : SS} {k : Int32} {i : Nat} {a b a2 b2 : Int32} (h : CR c k i a b) (g : CR c k i a2 b2) : a = a2 ∧ b = b2 := by
  obtain ⟨f, f1, f2, -⟩ := h
  obtain ⟨e, e1, e2, -⟩ := g
  have : f = e := by
    funext j
    cases hf : f j with
    | true => exact ((e1 j).mpr ((f1 j).mp hf)).symm
    | false =>
      cases he : e j with
      | false => rfl
      | true => exact absurd ((f1 j).mpr ((e1 j).mp he)) (by rw [hf]; decide)
  subst this
  have q := f2.trans e2.symm
  exact ⟨congrArg Prod.fst q, congrArg Prod.snd q⟩
theorem CR.z (c : SS) (k : Int32) : CR c k 0 0 (-6) := by
  refine ⟨fun j => @decide (csel c k j) (Classical.propDecidable _), fun j => ?_, rfl, Or.inl rfl⟩
  simp
theorem CR.no {c : SS} {k : Int32} {i : Nat} {a b : Int32} (h : CR c k i a b) (hs : ¬ csel c k i) : CR c k (i + 1) a b := by
  obtain ⟨f, f1, f2, f3⟩ := h
  have hf : f i = false := by
    cases e : f i with
    | false => rfl
    | true => exact absurd ((f1 i).mp e) hs
  refine ⟨f, f1, ?_, f3.imp id (fun ⟨j, hj, e⟩ => ⟨j, by omega, e⟩)⟩
  rw [lp_s, ← f2, hf]; rfl
theorem CR.up {c : SS} {k : Int32} {i : Nat} {a b : Int32} (h : CR c k i a b) (hs : csel c k i) (hb : b = -6 ∨ a < cgv c i) : CR c k (i + 1) (cgv c i) (nI i) := by
  obtain ⟨f, f1, f2, f3⟩ := h
  refine ⟨f, f1, ?_, Or.inr ⟨i, by omega, rfl⟩⟩
  rw [lp_s, ← f2, (f1 i).mpr hs, if_pos rfl]
  show _ = if b = -6 ∨ a < cgv c i then _ else _
  rw [if_pos hb]
theorem CR.st {c : SS} {k : Int32} {i : Nat} {a b : Int32} (h : CR c k i a b) (hs : csel c k i) (hb : ¬ (b = -6 ∨ a < cgv c i)) : CR c k (i + 1) a b := by
  obtain ⟨f, f1, f2, f3⟩ := h
  refine ⟨f, f1, ?_, f3.imp id (fun ⟨j, hj, e⟩ => ⟨j, by omega, e⟩)⟩
  rw [lp_s, ← f2, (f1 i).mpr hs, if_pos rfl]
  show _ = if b = -6 ∨ a < cgv c i then _ else _
  rw [if_neg hb]
def ClC (c z : SS) : Prop := z.1 = c.1 ∧ (∀ j, j ≠ 8 → j ≠ 20 → z.2 j = c.2 j) ∧ ∀ j, j < 6 → z.2 20 j = 0
theorem cl_turn {c z : SS} (hW : WOK c) (h : ClC c z) (i : Nat) : ∃ z2, fX4_measure z (z.1 2 ||| nI i) = some z2 ∧ ClC c z2 ∧ fX4_ridersBy_27 z2 = some (bs (rdB c (bt (c.1 2 ||| nI i)) (fun _ => 0) 0)) ∧ ∀ r, fX5_goodOf z2 r = some (gdS c (bt (c.1 5)) (bt r)) := by
  obtain ⟨h1, h2, h3⟩ := h
  have hWz : WOK z := WOK_1 hW h1 (fun j hj => h2 j (by omega) (by omega))
  obtain ⟨m1, m2, m3⟩ := msr_f z (z.1 2 ||| nI i)
  rw [measure_s hWz]
  have q1 : (msr z (z.1 2 ||| nI i)).1 = c.1 := by rw [m1, h1]
  have qj : ∀ j, j ≠ 8 → j ≠ 20 → (msr z (z.1 2 ||| nI i)).2 j = c.2 j := fun j a b => by rw [m2 j a]; exact h2 j a b
  have q20 : ∀ j, j < 6 → (msr z (z.1 2 ||| nI i)).2 20 j = 0 := fun j hj => by rw [m2 20 (by omega)]; exact h3 j hj
  have q8 : ∀ p, p < 8 → (msr z (z.1 2 ||| nI i)).2 8 p = ndv c (bt (c.1 2 ||| nI i)) p := fun p hp => by
    rw [m3 p hp]
    unfold ndv va
    rw [h1, h2 1 (by omega) (by omega), h2 2 (by omega) (by omega), h2 3 (by omega) (by omega)]
  refine ⟨_, rfl, ⟨q1, qj, q20⟩, ?_, fun r => good_cs (by rw [q1]) (qj 4 (by omega) (by omega)) (qj 5 (by omega) (by omega)) r⟩
  have hr := late27_s hW (bt (c.1 2 ||| nI i)) q1 (qj 2 (by omega) (by omega)) q8 (fun _ => 0) (fun p hp => by
    obtain ⟨⟨g1, g2, g3⟩, -⟩ := hW.2.2.2.2.2.2.2.2 p hp
    exact ⟨_, rfl, by rw [q20 _ g2]; decide, fun _ => ⟨q20 _ g2, by omega⟩⟩) 0 (by omega)
  unfold fX4_ridersBy_27
  rw [show fX4_ridersLate_27 (msr z (z.1 2 ||| nI i)) 0 = _ from hr]
  rfl
theorem closing_c1 {c z : SS} (hW : WOK c) (hz : ClC c z) (k a2 : Int32) (K : Int32 → Int32 → SS → Option (Int32 × SS)) : ∃ mo fo z2, CR c k (2 ^ vn c) mo fo ∧ ClC c z2 ∧ fX6_closing_L35 K k a2 fu 0 (-6) 0 z = K mo fo z2 := by
  obtain ⟨⟨n1, n2, n3⟩, -⟩ := id hW
  have hp64 : 2 ^ vn c ≤ 64 := Nat.pow_le_pow_right (n := 2) (by decide) n3
  have hh := for_inv (fun n i (s : Int32 × Int32 × SS) => fX6_closing_L35 K k a2 n s.1 s.2.1 (nI i) s.2.2) (2 ^ vn c) (fun s => K s.1 s.2.1 s.2.2) (fun i s => CR c k i s.1 s.2.1 ∧ ClC c s.2.2) ?_ ?_ fu (0, -6, z) (fu_big (by omega)) ⟨CR.z c k, hz⟩
  · obtain ⟨⟨mo, fo, z2⟩, ⟨h1, h2⟩, h3⟩ := hh
    exact ⟨mo, fo, z2, h1, h2, h3⟩
  · intro n i ⟨mo, fo, s⟩ hi ⟨g1, g2⟩
    show ∃ s2 : Int32 × Int32 × SS, _ ∧ fX6_closing_L35 K k a2 (n + 1) mo fo (nI i) s = fX6_closing_L35 K k a2 n s2.1 s2.2.1 (nI (i + 1)) s2.2.2
    have g1' : CR c k i mo fo := g1
    have g2' : ClC c s := g2
    rw [fX6_closing_L35, if_neg (by rw [g2'.1, n1, pow_n n3]; exact nI_ge hi (by omega)), jn_e, inc_n, g2'.1]
    by_cases c1 : fJ6_bitCount_0f7a4 (nI i) = k
    · by_cases c2 : (nI i &&& c.1 2) = 0
      · rw [if_pos c1, if_pos c2]
        obtain ⟨z2, t1, t2, t3, t4⟩ := cl_turn hW g2' i
        rw [g2'.1] at t1
        rw [t1, Option.bind_some, t3, Option.bind_some, t4, Option.bind_some, gd_bs, jn_e]
        by_cases c3 : fo = -6
        · rw [if_pos c3]
          exact ⟨(cgv c i, nI i, z2), ⟨g1'.up ⟨c1, c2⟩ (Or.inl c3), t2⟩, rfl⟩
        · rw [if_neg c3]
          by_cases c4 : cgv c i ≤ mo
          · rw [if_pos (show gdS c (bt (c.1 5)) (rdB c (bt (c.1 2 ||| nI i)) (fun _ => 0) 0) ≤ mo from c4)]
            exact ⟨(mo, fo, z2), ⟨g1'.st ⟨c1, c2⟩ (fun q => by
              rcases q with q | q
              · exact c3 q
              · exact absurd (i32_le.mp c4) (by have := i32_lt.mp q; omega)), t2⟩, rfl⟩
          · rw [if_neg (show ¬ gdS c (bt (c.1 5)) (rdB c (bt (c.1 2 ||| nI i)) (fun _ => 0) 0) ≤ mo from c4)]
            exact ⟨(cgv c i, nI i, z2), ⟨g1'.up ⟨c1, c2⟩ (Or.inr (i32_lt.mpr (by
              have : ¬ (cgv c i).toInt ≤ mo.toInt := fun q => c4 (i32_le.mpr q)
              omega))), t2⟩, rfl⟩
      · rw [if_pos c1, if_neg c2]
        exact ⟨(mo, fo, s), ⟨g1'.no (fun q => c2 q.2), g2'⟩, rfl⟩
    · rw [if_neg c1]
      exact ⟨(mo, fo, s), ⟨g1'.no (fun q => c1 q.1), g2'⟩, rfl⟩
  · intro n ⟨mo, fo, s⟩ ⟨g1, g2⟩
    show fX6_closing_L35 K k a2 (n + 1) mo fo (nI (2 ^ vn c)) s = _
    have g2' : ClC c s := g2
    rw [fX6_closing_L35, if_pos (by rw [g2'.1, n1, pow_n n3]; exact Int32.le_refl _)]
