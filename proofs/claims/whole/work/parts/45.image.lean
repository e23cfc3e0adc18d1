theorem pk_fr {z z2 : SS} (h1 : ∀ k, k ≤ 14 → z2.1 k = z.1 k) (h2 : ∀ j, j ≤ 13 → z2.2 j = z.2 j) {b : Nat} : pk z2 b = pk z b := by
  rcases place_of b with hb | ⟨s', hs', rfl⟩ | ⟨p', t', ht', rfl⟩
  · rw [pk_0 _ hb, pk_0 _ hb, h1 _ (slS_n hb)]
  · rw [pk_1 _ hs', pk_1 _ hs', h2 1 (by omega)]
  · rw [pk_2 _ _ ht', pk_2 _ _ ht', h2 _ (slA_n ht').2]
theorem pk_w (z : SS) (x : Nat) (v u : Int32) (b : Nat) : pk (sF (sA z 27 x v) 29 u) b = pk z b :=
  pk_fr (fun k hk => by rw [sF_1, if_neg (by omega), sA_1]) (fun j hj => by rw [sF_2, sA_2, if_neg (by omega)])
theorem pk_w2 (z : SS) (v u : Int32) (b : Nat) : pk (sF (sF z 29 v) 30 u) b = pk z b := by
  refine pk_fr (z := z) (z2 := sF (sF z 29 v) 30 u) (fun k hk => ?_) (fun j hj => rfl)
  rw [sF_1, if_neg (show ¬ k = 30 by omega), sF_1, if_neg (show ¬ k = 29 by omega)]
theorem pk_w3 (z : SS) (x b : Nat) : pk (sA z 28 x 1) b = pk z b := by
  refine pk_fr (z := z) (z2 := sA z 28 x 1) (fun k hk => rfl) (fun j hj => ?_)
  rw [sA_2, if_neg (show ¬ j = 28 by omega)]
theorem pk_unp (f : Nat → Int32) (o : Nat) {b : Nat} : pk (unp f o) b = f (o + b) := by
  rcases place_of b with hb | ⟨s', hs', rfl⟩ | ⟨p', t', ht', rfl⟩
  · rw [pk_0 _ hb]
    have : b = 0 ∨ b = 1 ∨ b = 2 ∨ b = 3 ∨ b = 4 ∨ b = 5 := by omega
    rcases this with rfl | rfl | rfl | rfl | rfl | rfl <;> rfl
  · rw [pk_1 _ hs', ← Nat.add_assoc]; rfl
  · rw [pk_2 _ _ ht']
    show (if slA t' = 1 then f (o + 6 + p') else f (o + 12 + 8 * p' + (if slA t' = 12 then 6 else if slA t' = 13 then 7 else slA t' - 4))) = _
    have := slA_n ht'
    rw [if_neg (by omega)]
    have e : (if slA t' = 12 then 6 else if slA t' = 13 then 7 else slA t' - 4) = t' := by
      have : ∀ t : Fin 8, (if slA t.val = 12 then 6 else if slA t.val = 13 then 7 else slA t.val - 4) = t.val := by decide
      exact this ⟨t', ht'⟩
    rw [e]
    congr 1
    omega
/-- the same world, cell by cell -/
def EQW (c c2 : SS) : Prop := (∀ k, 1 ≤ k → k ≤ 8 → c2.1 k = c.1 k) ∧ (∀ s, s < 6 → c2.2 1 s = c.2 1 s) ∧ ∀ k p, 2 ≤ k → k ≤ 7 → p < 8 → c2.2 k p = c.2 k p
theorem WOK_pw {c c2 : SS} (h : WOK c) (e : EQW c c2) : WOK c2 := by
  obtain ⟨e1, e2, e3⟩ := e
  obtain ⟨a1, a2, a3, a4, a5, a6, a7, a8, a9⟩ := h
  unfold WOK vn vB vE vS
  rw [e1 1 (by omega) (by omega), e1 2 (by omega) (by omega), e1 3 (by omega) (by omega), e1 4 (by omega) (by omega), e1 5 (by omega) (by omega), e1 6 (by omega) (by omega), e1 7 (by omega) (by omega), e1 8 (by omega) (by omega)]
  refine ⟨a1, a2, a3, a4, a5, a6, a7, fun s hs => ?_, fun p hp => ?_⟩
  · unfold vse
    rw [e2 s hs]
    exact a8 s hs
  · have := a9 p hp
    unfold pOK va vco vn at *
    rw [e3 2 p (by omega) (by omega) hp, e3 3 p (by omega) (by omega) hp, e3 4 p (by omega) (by omega) hp, e3 5 p (by omega) (by omega) hp, e3 6 p (by omega) (by omega) hp, e3 7 p (by omega) (by omega) hp, e1 5 (by omega) (by omega), e1 1 (by omega) (by omega)]
    exact this
theorem WR_pw {c c2 m m2 : SS} (hW : WOK c) (h : WR c m) (e : EQW c c2) (g : ∀ b, b < 76 → pk m2 b = pk m b) : WR c2 m2 := by
  obtain ⟨e1, e2, e3⟩ := e
  have n3 := hW.1.2.2
  have s3 := hW.2.2.2.2.2.1.2
  obtain ⟨a1, a2, a3, a4, a5, a6, a7, a8, a9, a10⟩ := h
  have gA : ∀ p t, p < 8 → t < 8 → m2.2 (slA t) p = m.2 (slA t) p := fun p t hp ht => by
    have := g (12 + 8 * p + t) (by omega)
    rw [pk_2 _ _ ht, pk_2 _ _ ht] at this
    exact this
  have hn : vn c2 = vn c := by unfold vn; rw [e1 1 (by omega) (by omega)]
  have hS : vS c2 = vS c := by unfold vS; rw [e1 6 (by omega) (by omega)]
  unfold WR sR
  rw [hn, hS, e1 1 (by omega) (by omega), e1 2 (by omega) (by omega), e1 3 (by omega) (by omega), e1 4 (by omega) (by omega), e1 5 (by omega) (by omega), e1 6 (by omega) (by omega), e1 7 (by omega) (by omega), e1 8 (by omega) (by omega)]
  refine ⟨(g 0 (by omega)).trans a1, (g 1 (by omega)).trans a2, (g 2 (by omega)).trans a3, (g 3 (by omega)).trans a4, (g 4 (by omega)).trans a5, (g 5 (by omega)).trans a6, fun s hs => ?_, fun p hp => ?_, fun k hk => ?_, fun p hp => ?_⟩
  · have := g (6 + s) (by omega)
    rw [pk_1 _ (by omega), pk_1 _ (by omega)] at this
    rw [this, e2 s (by omega)]
    exact a7 s hs
  · have := a8 p hp
    unfold pR at *
    rw [e3 2 p (by omega) (by omega) hp, e3 3 p (by omega) (by omega) hp, e3 4 p (by omega) (by omega) hp, e3 5 p (by omega) (by omega) hp, e3 6 p (by omega) (by omega) hp, e3 7 p (by omega) (by omega) hp,
      show m2.2 4 p = m.2 4 p from gA p 0 hp (by omega), show m2.2 5 p = m.2 5 p from gA p 1 hp (by omega), show m2.2 6 p = m.2 6 p from gA p 2 hp (by omega), show m2.2 7 p = m.2 7 p from gA p 3 hp (by omega), show m2.2 8 p = m.2 8 p from gA p 4 hp (by omega), show m2.2 9 p = m.2 9 p from gA p 5 hp (by omega)]
    exact this
  · rw [show m2.2 12 k = m.2 12 k from gA k 6 (by omega) (by omega), show m2.2 13 k = m.2 13 k from gA k 7 (by omega) (by omega)]
    exact a9 k hk
  · obtain ⟨b1, b2, b3⟩ := a10 p hp
    have gk : ∀ k, k < vS c → m2.2 12 k = m.2 12 k ∧ m2.2 13 k = m.2 13 k := fun k hk => ⟨gA k 6 (by omega) (by omega), gA k 7 (by omega) (by omega)⟩
    refine ⟨b1.trans ⟨?_, ?_⟩, b2.trans ⟨?_, ?_⟩, fun z => by unfold va; rw [e3 2 p (by omega) (by omega) hp]; exact b3 z⟩
    · rintro ⟨k, k1, k2, k3⟩; exact ⟨k, k1, (gk k k1).1.trans k2, (gk k k1).2.trans k3⟩
    · rintro ⟨k, k1, k2, k3⟩; exact ⟨k, k1, (gk k k1).1.symm.trans k2, (gk k k1).2.symm.trans k3⟩
    · rintro ⟨k, k1, k2, k3⟩; exact ⟨k, k1, (gk k k1).1.trans k2, (gk k k1).2.trans k3⟩
    · rintro ⟨k, k1, k2, k3⟩; exact ⟨k, k1, (gk k k1).1.symm.trans k2, (gk k k1).2.symm.trans k3⟩
theorem EQW.rf (c : SS) : EQW c c := ⟨fun _ _ _ => rfl, fun _ _ => rfl, fun _ _ _ _ _ => rfl⟩
theorem iR_pw {i : tg_I} {m m2 : SS} {k : Nat} (h : iR i m k) (e28 : m2.2 28 k = m.2 28 k) (e27 : ∀ b, b < 76 → m2.2 27 (90 * k + b) = m.2 27 (90 * k + b)) : iR i m2 k := by
  cases i with
  | none => show m2.2 28 k = 0; rw [e28]; exact h
  | some q =>
    obtain ⟨h1, h2, h3⟩ := h
    exact ⟨by rw [e28]; exact h1, h2, WR_pw h2 h3 (EQW.rf _) (fun b hb => by rw [pk_unp, pk_unp, e27 b hb])⟩
theorem cpW_e (i c : SS) : EQW c (cpW i c) := by
  refine ⟨fun _ _ _ => rfl, fun s hs => ?_, fun k p h1 h2 hp => ?_⟩
  · show va_cpy (c.2 1) (i.2 1) 0 0 6 s = _
    unfold va_cpy
    rw [if_pos (by omega), Nat.zero_add, Nat.sub_zero]
  · show va_cpy (c.2 k) (i.2 k) 0 0 (if k = 1 then 6 else 8) p = _
    rw [if_neg (show ¬ k = 1 by omega)]
    unfold va_cpy
    rw [if_pos (by omega), Nat.zero_add, Nat.sub_zero]
theorem rsW_e (c j : SS) : EQW j (rsW c j) := by
  refine ⟨fun k h1 h2 => ?_, fun s hs => ?_, fun k p h1 h2 hp => ?_⟩
  · show (if 1 ≤ k ∧ k ≤ 8 then j.1 k else c.1 k) = _
    rw [if_pos ⟨h1, h2⟩]
  · show va_cpy (j.2 1) (c.2 1) 0 0 6 s = _
    unfold va_cpy
    rw [if_pos (by omega), Nat.zero_add, Nat.sub_zero]
  · show (if 1 ≤ k ∧ k ≤ 7 then va_cpy (j.2 k) (c.2 k) 0 0 (if k = 1 then 6 else 8) else c.2 k) p = _
    rw [if_pos (by omega)]
    rw [if_neg (show ¬ k = 1 by omega)]
    unfold va_cpy
    rw [if_pos (by omega), Nat.zero_add, Nat.sub_zero]
def PWr (m : SS) (o a : Nat) (z : SS) : Prop := (z.1 29 = nI (o + a) ∧ z.1 30 = 1) ∧ (∀ b, b < 76 → pk z b = pk m b) ∧ (z.1 16 = m.1 16 ∧ z.2 15 = m.2 15 ∧ z.2 28 = m.2 28) ∧ (∀ b, b < a → z.2 27 (o + b) = pk m b) ∧ ∀ x, (x < o ∨ o + 76 ≤ x) → z.2 27 x = m.2 27 x
theorem PWr.ph {m : SS} {o : Nat} (ho : o ≤ 90) : PH (PWr m o) := by
  intro a z ha ⟨⟨h1, h2⟩, h3, ⟨h4, h5, h6⟩, h7, h8⟩
  refine ⟨_, _, pass_w h2 h1 (by omega) _, ?_⟩
  obtain ⟨f1, f2⟩ := st_fr (sF (sA z 27 (o + a) (pk z a)) 29 (nI (o + a + 1))) a (pk z a)
  refine ⟨⟨?_, ?_⟩, fun b hb => ?_, ⟨?_, ?_, ?_⟩, fun b hb => ?_, fun x hx => ?_⟩
  · rw [f1 29 (by omega), sF_1, if_pos rfl]; rfl
  · rw [f1 30 (by omega), sF_1, if_neg (by omega), sA_1]; exact h2
  · rw [pk_st, pk_w]
    by_cases e : b = a
    · rw [if_pos e, e]; exact h3 a ha
    · rw [if_neg e]; exact h3 b hb
  · rw [f1 16 (by omega), sF_1, if_neg (by omega), sA_1]; exact h4
  · rw [f2 15 (by omega), sF_2, sA_2, if_neg (by omega)]; exact h5
  · rw [f2 28 (by omega), sF_2, sA_2, if_neg (by omega)]; exact h6
  · rw [f2 27 (by omega), sF_2, sA_2, if_pos rfl, upd_e]
    by_cases e : b = a
    · rw [if_pos (by omega), e]; exact h3 a ha
    · rw [if_neg (by omega)]; exact h7 b (by omega)
  · rw [f2 27 (by omega), sF_2, sA_2, if_pos rfl, upd_e, if_neg (by omega)]; exact h8 x hx
def PRd (m : SS) (o a : Nat) (z : SS) : Prop := (z.1 29 = nI (o + a) ∧ z.1 30 = 0) ∧ (∀ b, b < a → pk z b = m.2 27 (o + b)) ∧ (z.1 16 = m.1 16 ∧ z.2 15 = m.2 15 ∧ z.2 28 = m.2 28) ∧ ∀ x, z.2 27 x = m.2 27 x
theorem PRd.ph {m : SS} {o : Nat} (ho : o ≤ 90) : PH (PRd m o) := by
  intro a z ha ⟨⟨h1, h2⟩, h3, ⟨h4, h5, h6⟩, h7⟩
  refine ⟨_, _, pass_r h2 h1 (by omega) _, ?_⟩
  obtain ⟨f1, f2⟩ := st_fr (sF (sA z 27 (o + a) (z.2 27 (o + a))) 29 (nI (o + a + 1))) a (z.2 27 (o + a))
  refine ⟨⟨?_, ?_⟩, fun b hb => ?_, ⟨?_, ?_, ?_⟩, fun x => ?_⟩
  · rw [f1 29 (by omega), sF_1, if_pos rfl]; rfl
  · rw [f1 30 (by omega), sF_1, if_neg (by omega), sA_1]; exact h2
  · rw [pk_st, pk_w]
    by_cases e : b = a
    · rw [if_pos e, e]; exact h7 _
    · rw [if_neg e]; exact h3 b (by omega)
  · rw [f1 16 (by omega), sF_1, if_neg (by omega), sA_1]; exact h4
  · rw [f2 15 (by omega), sF_2, sA_2, if_neg (by omega)]; exact h5
  · rw [f2 28 (by omega), sF_2, sA_2, if_neg (by omega)]; exact h6
  · rw [f2 27 (by omega), sF_2, sA_2, if_pos rfl, upd_e]
    by_cases e : x = o + a
    · rw [if_pos e, e]; exact h7 _
    · rw [if_neg e]; exact h7 x
theorem n90 {k : Nat} (hk : k < 2) : (90 : Int32) * nI k = nI (90 * k) := by
  have : k = 0 ∨ k = 1 := by omega
  rcases this with rfl | rfl <;> decide
theorem in01 {k : Nat} (hk : k < 2) : ¬ fX7_in (nI k).toInt64 0 1 = 0 := by
  rw [lin01, ite0, nI_ti (by omega)]
  omega
theorem image_m (m : SS) {k : Nat} (hk : k < 2) : ∃ y, fX7_image m (nI k) = some (1, sA y 28 k 1) ∧ PWr m (90 * k) 76 y := by
  obtain ⟨y, y1, y2⟩ := pass_all (PWr.ph (m := m) (o := 90 * k) (by omega)) (z := sF (sF m 29 (nI (90 * k))) 30 1) ⟨⟨rfl, rfl⟩, fun b _ => pk_w2 m _ _ b, ⟨rfl, rfl, rfl⟩, fun b hb => absurd hb (by omega), fun _ _ => rfl⟩
  refine ⟨y, ?_, y1⟩
  unfold fX7_image
  rw [if_neg (in01 hk), n90 hk, y2, Option.bind_some, ckb_n hk (by decide), nI_clamp (by omega)]
theorem image_i {c m y : SS} {i0 i1 : tg_I} (h : Inv c m i0 i1) {k : Nat} (hk : k < 2) (hy : PWr m (90 * k) 76 y) : (∀ q : (Nat → Nat) × SS, EQW c q.2 → iR (some q) (sA y 28 k 1) k) ∧ (∀ i k2, k2 < 2 → k2 ≠ k → iR i m k2 → iR i (sA y 28 k 1) k2) ∧ WR c (sA y 28 k 1) ∧ PR c (sA y 28 k 1) := by
  obtain ⟨hW, hR, hP, hi0, hi1, hX⟩ := h
  obtain ⟨-, h3, ⟨h4, h5, h6⟩, h7, h8⟩ := hy
  have e27 : (sA y 28 k 1).2 27 = y.2 27 := rfl
  have epk : ∀ b, pk (sA y 28 k 1) b = pk y b := fun b => pk_w3 y k b
  refine ⟨fun q hq => ⟨?_, WOK_pw hW hq, WR_pw hW hR hq (fun b hb => ?_)⟩, fun i k2 a1 a2 a3 => iR_pw a3 ?_ (fun b hb => ?_), WR_pw hW hR (EQW.rf c) (fun b hb => ?_), ?_⟩
  · rw [sA_2, if_pos rfl, upd_e, if_pos rfl]
  · rw [pk_unp, e27, h7 b hb]
  · rw [sA_2, if_pos rfl, upd_e, if_neg a2, h6]
  · rw [e27, h8 _ (by omega)]
  · rw [epk b, h3 b hb]
  · unfold PR
    rw [sA_1, h4, show (sA y 28 k 1).2 15 = y.2 15 from rfl, h5]
    exact hP
theorem ok_image : OK_image Inv := by
  intro c m i0 i1 h
  obtain ⟨hW, hR, hP, hi0, hi1, hX⟩ := id h
  refine ⟨fun p hp => ⟨m, ?_, h⟩, ?_, ?_⟩
  · unfold fX7_image
    rw [if_pos]
    rw [lin01]; rw [win01] at hp; exact hp
  · obtain ⟨y, y1, y2⟩ := image_m m (k := 0) (by omega)
    obtain ⟨g1, g2, g3, g4⟩ := image_i h (k := 0) (by omega) y2
    refine ⟨_, y1, fun B => ⟨hW, g3, g4, ?_, g2 i1 1 (by omega) (by omega) hi1, hX⟩⟩
    cases i0 with
    | none => exact g1 _ (cpW_e _ _)
    | some q => exact g1 _ (cpW_e _ _)
  · obtain ⟨y, y1, y2⟩ := image_m m (k := 1) (by omega)
    obtain ⟨g1, g2, g3, g4⟩ := image_i h (k := 1) (by omega) y2
    refine ⟨_, y1, fun B => ⟨hW, g3, g4, g2 i0 0 (by omega) (by omega) hi0, ?_, hX⟩⟩
    cases i1 with
    | none => exact g1 _ (cpW_e _ _)
    | some q => exact g1 _ (cpW_e _ _)
theorem restore_0 {m : SS} {k : Nat} (hk : k < 2) (h : m.2 28 k = 0) : fX7_restore m (nI k) = some (-3, m) := by
  unfold fX7_restore
  rw [if_neg (in01 hk), ald_n hk (by decide), h, if_pos rfl]
theorem restore_1 {m : SS} {k : Nat} (hk : k < 2) (h : m.2 28 k = 1) : ∃ y, fX7_restore m (nI k) = some (1, y) ∧ PRd m (90 * k) 76 y := by
  obtain ⟨y, y1, y2⟩ := pass_all (PRd.ph (m := m) (o := 90 * k) (by omega)) (z := sF (sF m 29 (nI (90 * k))) 30 0) ⟨⟨rfl, rfl⟩, fun b hb => absurd hb (by omega), ⟨rfl, rfl, rfl⟩, fun _ => rfl⟩
  refine ⟨y, ?_, y1⟩
  unfold fX7_restore
  rw [if_neg (in01 hk), ald_n hk (by decide), h, if_neg (show ¬ (1 : Int32) = 0 by decide), n90 hk, y2, Option.bind_some]
theorem restore_i {c m : SS} {i0 i1 i : tg_I} (h : Inv c m i0 i1) {k : Nat} (hk : k < 2) (hi : iR i m k) : ∃ m2, fX7_restore m (nI k) = some (rsA i, m2) ∧ Inv (rsC c i) m2 i0 i1 := by
  obtain ⟨hW, hR, hP, hi0, hi1, hX⟩ := id h
  cases i with
  | none => exact ⟨m, restore_0 hk hi, h⟩
  | some q =>
    obtain ⟨a1, a2, a3⟩ := hi
    obtain ⟨y, y1, -, h3, ⟨h4, h5, h6⟩, h7⟩ := restore_1 hk a1
    refine ⟨y, y1, WOK_pw a2 (rsW_e c q.2), WR_pw a2 a3 (rsW_e c q.2) (fun b hb => by rw [h3 b hb, pk_unp]), ?_, iR_pw hi0 (by rw [h6]) (fun b _ => h7 _), iR_pw hi1 (by rw [h6]) (fun b _ => h7 _), hX⟩
    unfold PR
    rw [h4, h5]
    exact hP
theorem ok_restore : OK_restore Inv := by
  intro c m i0 i1 h
  obtain ⟨hW, hR, hP, hi0, hi1, hX⟩ := id h
  refine ⟨fun p hp => ⟨m, ?_, h⟩, restore_i h (k := 0) (by omega) hi0, restore_i h (k := 1) (by omega) hi1⟩
  unfold fX7_restore
  rw [if_pos]
  rw [lin01]; rw [win01] at hp; exact hp
