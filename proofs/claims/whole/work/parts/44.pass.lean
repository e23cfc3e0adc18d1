/-! the reference's passes over the world's cells, in their order -/
def slS (a : Nat) : Nat := if a = 0 then 0 else if a = 1 then 2 else if a = 2 then 3 else if a = 3 then 10 else if a = 4 then 11 else 14
def slA (t : Nat) : Nat := if t < 6 then t + 4 else t + 6
def pk (z : SS) (a : Nat) : Int32 := if a < 6 then z.1 (slS a) else if a < 12 then z.2 1 (a - 6) else z.2 (slA ((a - 12) % 8)) ((a - 12) / 8)
def stt (z : SS) (a : Nat) (v : Int32) : SS := if a < 6 then sF z (slS a) v else if a < 12 then sA z 1 (a - 6) v else sA z (slA ((a - 12) % 8)) ((a - 12) / 8) v
theorem slS_n {a : Nat} (h : a < 6) : slS a ≤ 14 := by
  have : ∀ a : Fin 6, slS a.val ≤ 14 := by decide
  exact this ⟨a, h⟩
theorem slS_i {a b : Nat} (ha : a < 6) (hb : b < 6) (h : slS a = slS b) : a = b := by
  have : ∀ a b : Fin 6, slS a.val = slS b.val → a = b := by decide
  exact congrArg Fin.val (this ⟨a, ha⟩ ⟨b, hb⟩ h)
theorem slA_i {a b : Nat} (h : slA a = slA b) : a = b := by
  unfold slA at h
  split at h <;> split at h <;> omega
theorem slA_n {t : Nat} (h : t < 8) : 4 ≤ slA t ∧ slA t ≤ 13 := by unfold slA; split <;> omega
theorem pk_0 (z : SS) {a : Nat} (h : a < 6) : pk z a = z.1 (slS a) := if_pos h
theorem pk_1 (z : SS) {s : Nat} (h : s < 6) : pk z (6 + s) = z.2 1 s := by
  unfold pk
  rw [if_neg (by omega), if_pos (by omega), show 6 + s - 6 = s by omega]
theorem pk_2 (z : SS) (p : Nat) {t : Nat} (h : t < 8) : pk z (12 + 8 * p + t) = z.2 (slA t) p := by
  unfold pk
  rw [if_neg (by omega), if_neg (by omega), show (12 + 8 * p + t - 12) % 8 = t by omega, show (12 + 8 * p + t - 12) / 8 = p by omega]
theorem st_0 (z : SS) {a : Nat} (h : a < 6) (v : Int32) : stt z a v = sF z (slS a) v := if_pos h
theorem st_1 (z : SS) {s : Nat} (h : s < 6) (v : Int32) : stt z (6 + s) v = sA z 1 s v := by
  unfold stt
  rw [if_neg (by omega), if_pos (by omega), show 6 + s - 6 = s by omega]
theorem st_2 (z : SS) (p : Nat) {t : Nat} (h : t < 8) (v : Int32) : stt z (12 + 8 * p + t) v = sA z (slA t) p v := by
  unfold stt
  rw [if_neg (by omega), if_neg (by omega), show (12 + 8 * p + t - 12) % 8 = t by omega, show (12 + 8 * p + t - 12) / 8 = p by omega]
theorem place_of (a : Nat) : a < 6 ∨ (∃ s, s < 6 ∧ a = 6 + s) ∨ ∃ p t, t < 8 ∧ a = 12 + 8 * p + t := by
  by_cases h1 : a < 6
  · exact Or.inl h1
  · by_cases h2 : a < 12
    · exact Or.inr (Or.inl ⟨a - 6, by omega, by omega⟩)
    · exact Or.inr (Or.inr ⟨(a - 12) / 8, (a - 12) % 8, by omega, by omega⟩)
theorem pk_st (z : SS) (a b : Nat) (v : Int32) : pk (stt z a v) b = if b = a then v else pk z b := by
  rcases place_of a with ha | ⟨s, hs, rfl⟩ | ⟨p, t, ht, rfl⟩
  · rw [st_0 z ha]
    rcases place_of b with hb | ⟨s', hs', rfl⟩ | ⟨p', t', ht', rfl⟩
    · rw [pk_0 _ hb, pk_0 _ hb, sF_1]
      by_cases e : b = a
      · rw [if_pos (by rw [e]), if_pos e]
      · rw [if_neg (fun q => e (slS_i hb ha q)), if_neg e]
    · rw [pk_1 _ hs', pk_1 _ hs', sF_2, if_neg (by omega)]
    · rw [pk_2 _ _ ht', pk_2 _ _ ht', sF_2, if_neg (by omega)]
  · rw [st_1 z hs]
    rcases place_of b with hb | ⟨s', hs', rfl⟩ | ⟨p', t', ht', rfl⟩
    · rw [pk_0 _ hb, pk_0 _ hb, sA_1, if_neg (by omega)]
    · rw [pk_1 _ hs', pk_1 _ hs', sA_2, if_pos rfl, upd_e]
      by_cases e : s' = s
      · rw [if_pos e, if_pos (by omega)]
      · rw [if_neg e, if_neg (by omega)]
    · have := slA_n ht'
      rw [pk_2 _ _ ht', pk_2 _ _ ht', sA_2, if_neg (by omega), if_neg (by omega)]
  · rw [st_2 z p ht]
    rcases place_of b with hb | ⟨s', hs', rfl⟩ | ⟨p', t', ht', rfl⟩
    · rw [pk_0 _ hb, pk_0 _ hb, sA_1, if_neg (by omega)]
    · have := slA_n ht
      rw [pk_1 _ hs', pk_1 _ hs', sA_2, if_neg (by omega), if_neg (by omega)]
    · rw [pk_2 _ _ ht', pk_2 _ _ ht', sA_2]
      by_cases e : t' = t
      · subst e
        rw [if_pos rfl, upd_e]
        by_cases e2 : p' = p
        · rw [if_pos e2, if_pos (by omega)]
        · rw [if_neg e2, if_neg (by omega)]
      · rw [if_neg (fun q => e (slA_i q)), if_neg (by omega)]
theorem st_fr (z : SS) (a : Nat) (v : Int32) : (∀ k, 15 ≤ k → (stt z a v).1 k = z.1 k) ∧ ∀ j, 15 ≤ j → (stt z a v).2 j = z.2 j := by
  rcases place_of a with ha | ⟨s, hs, rfl⟩ | ⟨p, t, ht, rfl⟩
  · have := slS_n ha
    rw [st_0 z ha]
    exact ⟨fun k hk => by rw [sF_1, if_neg (by omega)], fun _ _ => rfl⟩
  · rw [st_1 z hs]
    exact ⟨fun _ _ => rfl, fun j hj => by rw [sA_2, if_neg (by omega)]⟩
  · have := slA_n ht
    rw [st_2 z p ht]
    exact ⟨fun _ _ => rfl, fun j hj => by rw [sA_2, if_neg (by omega)]⟩
theorem pass_w {z : SS} {x : Nat} (h30 : z.1 30 = 1) (h29 : z.1 29 = nI x) (hx : x < 180) (v : Int32) : fX7_pass z v = some (v, sF (sA z 27 x v) 29 (nI (x + 1))) := by
  unfold fX7_pass
  rw [jn_e, h30, if_neg (show ¬ (1 : Int32) = 0 by decide), h29]
  show ckb 180 (nI x) _ = _
  rw [ckb_n hx (by decide), inc_n, nI_clamp (by omega)]
theorem pass_r {z : SS} {x : Nat} (h30 : z.1 30 = 0) (h29 : z.1 29 = nI x) (hx : x < 180) (v : Int32) : fX7_pass z v = some (z.2 27 x, sF (sA z 27 x (z.2 27 x)) 29 (nI (x + 1))) := by
  unfold fX7_pass
  rw [jn_e, h30, if_pos rfl, h29, ald_n hx (by decide)]
  show ckb 180 (nI x) _ = _
  rw [ckb_n hx (by decide), inc_n, nI_clamp (by omega)]
def PH (P : Nat → SS → Prop) : Prop := ∀ a z, a < 76 → P a z → ∃ r z2, fX7_pass z (pk z a) = some (r, z2) ∧ P (a + 1) (stt z2 a r)
theorem PH.s {P : Nat → SS → Prop} (H : PH P) {a : Nat} (ha : a < 6) {z : SS} (h : P a z) : ∃ q : Int32 × SS, fX7_pass z (z.1 (slS a)) = some q ∧ P (a + 1) (sF q.2 (slS a) q.1) := by
  obtain ⟨r, z2, h1, h2⟩ := H a z (by omega) h
  rw [pk_0 _ ha] at h1
  rw [st_0 _ ha] at h2
  exact ⟨(r, z2), h1, h2⟩
theorem PH.t {P : Nat → SS → Prop} (H : PH P) {s : Nat} (hs : s < 6) {z : SS} (h : P (6 + s) z) : ∃ q : Int32 × SS, fX7_pass z (z.2 1 s) = some q ∧ P (6 + (s + 1)) (sA q.2 1 s q.1) := by
  obtain ⟨r, z2, h1, h2⟩ := H (6 + s) z (by omega) h
  rw [pk_1 _ hs] at h1
  rw [st_1 _ hs] at h2
  exact ⟨(r, z2), h1, h2⟩
theorem PH.u {P : Nat → SS → Prop} (H : PH P) {p : Nat} (hp : p < 8) (t : Nat) (ht : t < 8) {z : SS} (h : P (12 + 8 * p + t) z) : ∃ q : Int32 × SS, fX7_pass z (z.2 (slA t) p) = some q ∧ P (12 + 8 * p + (t + 1)) (sA q.2 (slA t) p q.1) := by
  obtain ⟨r, z2, h1, h2⟩ := H (12 + 8 * p + t) z (by omega) h
  rw [pk_2 _ _ ht] at h1
  rw [st_2 _ _ ht] at h2
  exact ⟨(r, z2), h1, h2⟩
theorem pass_2 {P : Nat → SS → Prop} (H : PH P) {z : SS} (h : P 12 z) : ∃ z2, P 76 z2 ∧ fX7_passAll_L104 fu 0 z = some z2 := by
  have hh := for_inv (fun n i (s : SS) => fX7_passAll_L104 n (nI i) s) 8 some (fun i s => P (12 + 8 * i) s) ?_ ?_ fu z (fu_big (by omega)) h
  · exact hh
  · intro n p s hp hs
    show ∃ s2, P (12 + 8 * (p + 1)) s2 ∧ fX7_passAll_L104 (n + 1) (nI p) s = fX7_passAll_L104 n (nI (p + 1)) s2
    obtain ⟨q0, e0, g0⟩ := H.u hp 0 (by omega) hs
    obtain ⟨q1, e1, g1⟩ := H.u hp 1 (by omega) g0
    obtain ⟨q2, e2, g2⟩ := H.u hp 2 (by omega) g1
    obtain ⟨q3, e3, g3⟩ := H.u hp 3 (by omega) g2
    obtain ⟨q4, e4, g4⟩ := H.u hp 4 (by omega) g3
    obtain ⟨q5, e5, g5⟩ := H.u hp 5 (by omega) g4
    obtain ⟨q6, e6, g6⟩ := H.u hp 6 (by omega) g5
    obtain ⟨q7, e7, g7⟩ := H.u hp 7 (by omega) g6
    have e0' : fX7_pass s (s.2 4 p) = some q0 := e0
    have e1' : fX7_pass (sA q0.2 4 p q0.1) (q0.2.2 5 p) = some q1 := e1
    have e2' : fX7_pass (sA q1.2 5 p q1.1) (q1.2.2 6 p) = some q2 := e2
    have e3' : fX7_pass (sA q2.2 6 p q2.1) (q2.2.2 7 p) = some q3 := e3
    have e4' : fX7_pass (sA q3.2 7 p q3.1) (q3.2.2 8 p) = some q4 := e4
    have e5' : fX7_pass (sA q4.2 8 p q4.1) (q4.2.2 9 p) = some q5 := e5
    have e6' : fX7_pass (sA q5.2 9 p q5.1) (q5.2.2 12 p) = some q6 := e6
    have e7' : fX7_pass (sA q6.2 12 p q6.1) (q6.2.2 13 p) = some q7 := e7
    refine ⟨sA q7.2 13 p q7.1, g7, ?_⟩
    rw [fX7_passAll_L104, if_neg (n8 hp), inc_n, nI_clamp (by omega)]
    rw [ald_n hp (by decide), e0', Option.bind_some, ckb_n hp (by decide)]
    rw [ald_n hp (by decide), e1', Option.bind_some, ckb_n hp (by decide)]
    rw [ald_n hp (by decide), e2', Option.bind_some, ckb_n hp (by decide)]
    rw [ald_n hp (by decide), e3', Option.bind_some, ckb_n hp (by decide)]
    rw [ald_n hp (by decide), e4', Option.bind_some, ckb_n hp (by decide)]
    rw [ald_n hp (by decide), e5', Option.bind_some, ckb_n hp (by decide)]
    rw [ald_n hp (by decide), e6', Option.bind_some, ckb_n hp (by decide)]
    rw [ald_n hp (by decide), e7', Option.bind_some, ckb_n hp (by decide)]
  · intro n s hs
    show fX7_passAll_L104 (n + 1) (nI 8) s = some s
    rw [fX7_passAll_L104, if_pos (show (8 : Int32) ≤ nI 8 by decide)]
theorem pass_1 {P : Nat → SS → Prop} (H : PH P) {z : SS} (h : P 6 z) : ∃ z2, P 76 z2 ∧ fX7_passAll_L74 (fun (c11 : SS) => fX7_passAll_L104 fu (0 : Int32) c11) fu 0 z = some z2 := by
  have hh := for_inv (fun n i (s : SS) => fX7_passAll_L74 (fun (c11 : SS) => fX7_passAll_L104 fu (0 : Int32) c11) n (nI i) s) 6 (fun (c11 : SS) => fX7_passAll_L104 fu (0 : Int32) c11) (fun i s => P (6 + i) s) ?_ ?_ fu z (fu_big (by omega)) h
  · obtain ⟨y, y1, y2⟩ := hh
    obtain ⟨x, x1, x2⟩ := pass_2 H y1
    exact ⟨x, x1, Eq.trans y2 x2⟩
  · intro n p s hp hs
    show ∃ s2, P (6 + (p + 1)) s2 ∧ fX7_passAll_L74 (fun (c11 : SS) => fX7_passAll_L104 fu (0 : Int32) c11) (n + 1) (nI p) s = fX7_passAll_L74 (fun (c11 : SS) => fX7_passAll_L104 fu (0 : Int32) c11) n (nI (p + 1)) s2
    obtain ⟨q, e, g⟩ := H.t hp hs
    refine ⟨_, g, ?_⟩
    rw [fX7_passAll_L74, if_neg (n6 hp), inc_n, nI_clamp (by omega), ald_n hp (by decide), e, Option.bind_some, ckb_n hp (by decide)]
  · intro n s hs
    show fX7_passAll_L74 (fun (c11 : SS) => fX7_passAll_L104 fu (0 : Int32) c11) (n + 1) (nI 6) s = fX7_passAll_L104 fu (0 : Int32) s
    rw [fX7_passAll_L74, if_pos (show (6 : Int32) ≤ nI 6 by decide)]
theorem pass_all {P : Nat → SS → Prop} (H : PH P) {z : SS} (h : P 0 z) : ∃ z2, P 76 z2 ∧ fX7_passAll z = some z2 := by
  obtain ⟨q0, e0, g0⟩ := H.s (show 0 < 6 by omega) h
  obtain ⟨q1, e1, g1⟩ := H.s (show 1 < 6 by omega) g0
  obtain ⟨q2, e2, g2⟩ := H.s (show 2 < 6 by omega) g1
  obtain ⟨q3, e3, g3⟩ := H.s (show 3 < 6 by omega) g2
  obtain ⟨q4, e4, g4⟩ := H.s (show 4 < 6 by omega) g3
  obtain ⟨q5, e5, g5⟩ := H.s (show 5 < 6 by omega) g4
  obtain ⟨y, y1, y2⟩ := pass_1 H g5
  refine ⟨y, y1, ?_⟩
  have e0' : fX7_pass z (z.1 0) = some q0 := e0
  have e1' : fX7_pass (sF q0.2 0 q0.1) (q0.2.1 2) = some q1 := e1
  have e2' : fX7_pass (sF q1.2 2 q1.1) (q1.2.1 3) = some q2 := e2
  have e3' : fX7_pass (sF q2.2 3 q2.1) (q2.2.1 10) = some q3 := e3
  have e4' : fX7_pass (sF q3.2 10 q3.1) (q3.2.1 11) = some q4 := e4
  have e5' : fX7_pass (sF q4.2 11 q4.1) (q4.2.1 14) = some q5 := e5
  have y2' : fX7_passAll_L74 (fun (c11 : SS) => fX7_passAll_L104 fu (0 : Int32) c11) fu 0 (sF q5.2 14 q5.1) = some y := y2
  unfold fX7_passAll
  rw [e0', Option.bind_some, e1', Option.bind_some, e2', Option.bind_some, e3', Option.bind_some, e4', Option.bind_some, e5', Option.bind_some, y2']
