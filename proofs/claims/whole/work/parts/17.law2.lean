def OK_image (Inv : SS → SS → tg_I → tg_I → Prop) : Prop := ∀ (c m : SS) (i0 i1 : tg_I), Inv c m i0 i1 → (∀ p : Int32, fX6_within p 0 1 = 0 → ∃ m2, fX7_image m p = some (-2, m2) ∧ Inv c m2 i0 i1) ∧ (∃ m2, fX7_image m 0 = some (1, m2) ∧ ∀ B, Inv c m2 (upI i0 B c) i1) ∧ (∃ m2, fX7_image m 1 = some (1, m2) ∧ ∀ B, Inv c m2 i0 (upI i1 B c))
def rsA (i : tg_I) : Int32 := match i with
  | none => -3
  | some _ => 1
def rsC (c : SS) (i : tg_I) : SS := match i with
  | none => c
  | some q => rsW c q.2
def OK_restore (Inv : SS → SS → tg_I → tg_I → Prop) : Prop := ∀ (c m : SS) (i0 i1 : tg_I), Inv c m i0 i1 → (∀ p : Int32, fX6_within p 0 1 = 0 → ∃ m2, fX7_restore m p = some (-2, m2) ∧ Inv c m2 i0 i1) ∧ (∃ m2, fX7_restore m 0 = some (rsA i0, m2) ∧ Inv (rsC c i0) m2 i0 i1) ∧ (∃ m2, fX7_restore m 1 = some (rsA i1, m2) ∧ Inv (rsC c i1) m2 i0 i1)
theorem within01 {p : Int32} (h : ¬ fX6_within p 0 1 = 0) : p = 0 ∨ p = 1 := by
  unfold fX6_within at h
  by_cases h1 : p < 0
  · rw [if_pos h1] at h; exact absurd rfl h
  · rw [if_neg h1] at h
    by_cases h2 : 1 < p
    · rw [if_pos h2] at h; exact absurd rfl h
    · have a1 : ¬ p.toInt < (0 : Int32).toInt := fun q => h1 (Int32.lt_iff_toInt_lt.mpr q)
      have a2 : ¬ (1 : Int32).toInt < p.toInt := fun q => h2 (Int32.lt_iff_toInt_lt.mpr q)
      have e0 : (0 : Int32).toInt = 0 := rfl
      have e1 : (1 : Int32).toInt = 1 := rfl
      rw [e0] at a1; rw [e1] at a2
      have : p.toInt = 0 ∨ p.toInt = 1 := by omega
      rcases this with h3 | h3
      · left; exact Int32.toInt_inj.mp (by rw [h3, e0])
      · right; exact Int32.toInt_inj.mp (by rw [h3, e1])
def wQa (G : tg_G) (A : Nat → Nat) (c : SS) : va_W := [(A 1, .inr (1, [.ref (A 2), .int (c.1 0)])), (A 2, .inl (G.2.1, 20, .inl (c.2 0)))]
def wQb (G : tg_G) (A : Nat → Nat) (c : SS) : va_W := [(A 11, .inr (4, [.ref (A 3), .ref (A 12)])), (A 12, .inl (G.2.1, 8, .inl (c.2 8))), (A 13, .inr (2, [.ref (A 3), .ref (A 11), .ref (A 14), .ref (A 15), .ref (A 16), .ref (A 17)])), (A 14, .inl (G.2.1, 66, .inl (c.2 9))), (A 15, .inl (G.2.1, 6, .inl (c.2 10))), (A 16, .inl (G.2.1, 77, .inl (c.2 11))), (A 17, .inl (G.2.1, 66, .inl (c.2 12))), (A 18, .inr (3, [.ref (A 3), .ref (A 13), .ref (A 19), .ref (A 20)])), (A 19, .inl (G.2.1, 70, .inl (c.2 13))), (A 20, .inl (G.2.1, 328, .inl (c.2 14))), (A 21, .inr (0, [.ref (A 3), .ref (A 11), .ref (A 22), .ref (A 23), .ref (A 24), .ref (A 25), .int (c.1 9), .int (c.1 10), .int (c.1 11)])), (A 22, .inl (G.2.1, 462, .inl (c.2 15))), (A 23, .inl (G.2.1, 462, .inl (c.2 16))), (A 24, .inl (G.2.1, 6, .inl (c.2 17))), (A 25, .inl (G.2.1, 6, .inl (c.2 18))), (A 26, .inl (G.2.1, 6, .inl (c.2 19))), (A 27, .inl (G.2.1, 6, .inl (c.2 20)))]
def wQ (G : tg_G) (A : Nat → Nat) (c : SS) : va_W := wQa G A c ++ wQb G A c
def wO (A : Nat → Nat) : Nat × va_E := (A 0, .inr (6, [.ref (A 1), .ref (A 3), .ref (A 28), .ref (A 11), .ref (A 13), .ref (A 18), .ref (A 21), .ref (A 26), .ref (A 27)]))
theorem wC_split (G : tg_G) (A : Nat → Nat) (c : SS) : wC G A c = wO A :: (wQa G A c ++ (wW G (fun j => A (3 + j)) c ++ wQb G A c)) := rfl
theorem pm_1 {α : Type} (o g : α) (Qa Qb W I M : List α) : (o :: (Qa ++ (W ++ Qb)) ++ (g :: I)) ++ M |>.Perm (([o, g] ++ (W ++ I)) ++ ((Qa ++ Qb) ++ M)) := by
  have h1 : ((o :: (Qa ++ (W ++ Qb)) ++ (g :: I)) ++ M) = o :: ((Qa ++ (W ++ Qb)) ++ g :: (I ++ M)) := by simp
  have h2 : (([o, g] ++ (W ++ I)) ++ ((Qa ++ Qb) ++ M)) = o :: g :: (W ++ (I ++ ((Qa ++ Qb) ++ M))) := by simp
  rw [h1, h2]
  refine List.Perm.cons o (List.perm_middle.trans (List.Perm.cons g ?_))
  have h3 : (Qa ++ (W ++ Qb)).Perm (W ++ (Qa ++ Qb)) := by
    have := (List.perm_append_comm (l₁ := Qa) (l₂ := W)).append_right Qb
    simpa using this
  have h4 : ((Qa ++ Qb) ++ (I ++ M)).Perm (I ++ ((Qa ++ Qb) ++ M)) := by
    have := (List.perm_append_comm (l₁ := Qa ++ Qb) (l₂ := I)).append_right M
    simpa using this
  have h5 := h3.append_right (I ++ M)
  refine h5.trans ?_
  have h6 := h4.append_left W
  simpa using h6
theorem va_D_nodup {A : Nat → Prop} {w : va_W} : va_D A w ↔ (w.map Prod.fst).Nodup ∧ ∀ q ∈ w, A q.1 := by
  constructor
  · intro h
    refine ⟨?_, fun q hq => ?_⟩
    · rw [List.nodup_iff_pairwise_ne, List.pairwise_iff_getElem]
      intro i j hi hj hij e
      have hi' : i < w.length := by simpa using hi
      have hj' : j < w.length := by simpa using hj
      have := h.1 i j w[i] w[j] (List.getElem?_eq_getElem hi') (List.getElem?_eq_getElem hj') (by simpa using e)
      omega
    · obtain ⟨k, hk⟩ := List.getElem?_of_mem hq
      exact h.2 k q hk
  · intro h
    refine ⟨fun i j p q h1 h2 e => ?_, fun k q hk => h.2 q (List.mem_of_getElem? hk)⟩
    have hn := h.1
    rw [List.nodup_iff_pairwise_ne, List.pairwise_iff_getElem] at hn
    obtain ⟨hi, ei⟩ := List.getElem?_eq_some_iff.mp h1
    obtain ⟨hj, ej⟩ := List.getElem?_eq_some_iff.mp h2
    rcases Nat.lt_trichotomy i j with hlt | heq | hgt
    · exact absurd (by rw [List.getElem_map, List.getElem_map, ei, ej]; exact e) (hn i j (by simpa using hi) (by simpa using hj) hlt)
    · exact heq
    · exact absurd (by rw [List.getElem_map, List.getElem_map, ei, ej]; exact e.symm) (hn j i (by simpa using hj) (by simpa using hi) hgt)
theorem V_perm {l : Launch} {G : tg_G} {Z : tg_Z} {E : tg_E} {R : Room} {own nm : String} {cc : ByteArray} {nL : Nat} {ret : Option FieldType} {pc : Nat} {lv : List (Nat × Value)} {st : List Value} {w w' : va_W} {k n : Nat} (h : w.Perm w') (kk : V l G Z E R own nm cc nL ret pc lv st w' k n) : V l G Z E R own nm cc nL ret pc lv st w k n := by
  intro p e s m args below meth c A C H locs hP hD hS ls hl
  refine kk p e s m args below meth c A C H locs (fun k q hq => ?_) ?_ hS ls hl
  · obtain ⟨j, hj⟩ := List.getElem?_of_mem (h.mem_iff.mpr (List.mem_of_getElem? hq))
    exact hP j q hj
  · have h1 := va_D_nodup.mp hD
    exact va_D_nodup.mpr ⟨(h.map Prod.fst).nodup_iff.mp h1.1, fun q hq => h1.2 q (h.mem_iff.mpr hq)⟩
theorem wX_split (G : tg_G) (A : Nat → Nat) (c : SS) (i0 i1 : tg_I) : wX G A c i0 i1 = [wO A, (A 28, .inl (G.2.2.2.1, 2, .inr (.inr (.inr (.inr (wIr i0 i1))))))] ++ (wW G (fun j => A (3 + j)) c ++ (wIc G i0 ++ wIc G i1)) := rfl
theorem wL_perm (G : tg_G) (A B : Nat → Nat) (c m : SS) (i0 i1 : tg_I) : (wL G A B c m i0 i1).Perm (wX G A c i0 i1 ++ (wQ G A c ++ wM G B m)) := by
  unfold wL imC wQ
  rw [wC_split, wX_split]
  exact pm_1 _ _ _ _ _ _ _
theorem wQ_rs (G : tg_G) (A : Nat → Nat) (c j : SS) : wQ G A (rsW c j) = wQ G A c := rfl
theorem wW_rs (G : tg_G) (A : Nat → Nat) (c j : SS) : wW G A (rsW c j) = wW G A (cpW c j) := rfl
theorem wL_perm2 (G : tg_G) (A B : Nat → Nat) (c j m : SS) (i0 i1 : tg_I) : (wL G A B (rsW c j) m i0 i1).Perm (wX G A (cpW c j) i0 i1 ++ (wQ G A c ++ wM G B m)) := by
  have h := wL_perm G A B (rsW c j) m i0 i1
  rw [wX_split, wW_rs, wQ_rs] at h
  rw [wX_split]
  exact h
set_option maxRecDepth 20000 in
theorem law_image_out {l : Launch} {G : tg_G} {b L i : Nat} {nm : String} {xs : Nat → Int32} (hi : i + 7 ≤ L) (hL : L ≤ 3584) {Inv : SS → SS → tg_I → tg_I → Prop} (A B : Nat → Nat) (c m : SS) (i0 i1 : tg_I) {m2 : SS} (hp : fX6_within (xs (nI i + (1 : Int32)).toNatClampNeg) 0 1 = 0) (e7 : fX7_image m (xs (nI i + (1 : Int32)).toNatClampNeg) = some (-2, m2)) (hI2 : Inv c m2 i0 i1) (kk : ∀ c2 m2 i0 i1, Inv c2 m2 i0 i1 → V l G ZL (EL b L xs) room_1 "TramGodLaw" nm code 4 ret 1115 [(0, .ref b), (1, .ref (A 0)), (2, .ref (B 0)), (3, .int (nI i))] [] (wL G A B c2 m2 i0 i1) (49 + ic i0 + ic i1) (375659 + isl i0 + isl i1)) : V l G ZL (EL b L xs) room_1 "TramGodLaw" nm code 4 ret 1046 [(0, .ref b), (1, .ref (A 0)), (2, .ref (B 0)), (3, .int (nI i))] [] (wL G A B c m i0 i1) (49 + ic i0 + ic i1) (375659 + isl i0 + isl i1) := by
  refine V_aload_n eL_1046 1 rfl ?_
  refine V_aload_n eL_1047 0 rfl ?_
  refine V_iload_n eL_1048 3 rfl ?_
  refine V_iconst (v := (1 : Int32)) eL_1049 rfl ?_
  refine V_iadd eL_1050 ?_
  refine V_sld eL_1051 (lw_in 1 hi hL (by decide) rfl) ?_
  refine V_callAi (rest := []) (wr := imC G A i0 i1 ++ wM G B m) (w' := wL G A B c m i0 i1) eL_1052 (kt_image_out l G A (xs (nI i + (1 : Int32)).toNatClampNeg) (wC G A c) hp) tc_618 tw_615 tw_1 tw_616 tw_617 0 rfl rfl hdX6_image rfl ⟨Nat.le_of_ble_eq_true rfl, Nat.le_of_ble_eq_true rfl⟩ ⟨ic_le2 i0 i1, isl_le2 i0 i1⟩ rfl (Nat.le_of_ble_eq_true rfl) (List.append_assoc _ _ _) (List.append_assoc _ _ _).symm ?_
  refine V_aload_n eL_1055 2 rfl ?_
  refine V_aload_n eL_1056 0 rfl ?_
  refine V_iload_n eL_1057 3 rfl ?_
  refine V_iconst (v := (1 : Int32)) eL_1058 rfl ?_
  refine V_iadd eL_1059 ?_
  refine V_sld eL_1060 (lw_in 1 hi hL (by decide) rfl) ?_
  refine V_callBi (rest := [.int (-2)]) (wl := wC G A c ++ imC G A i0 i1) (w1 := wM G B m2) eL_1061 (ctX7_image l G B m (xs (nI i + (1 : Int32)).toNatClampNeg) e7) tc_1005 tw_1002 tw_8 tw_1003 tw_1004 0 rfl rfl hdX7_image rfl ⟨Nat.le_of_ble_eq_true rfl, Nat.le_of_ble_eq_true rfl⟩ ⟨ic_le2 i0 i1, isl_le2 i0 i1⟩ rfl (Nat.le_of_ble_eq_true rfl) ?_
  refine V_icmp_eq (tgt := 1115) eL_1064 rfl (fun _ => ?_) (fun hb => absurd rfl hb)
  exact kk c m2 i0 i1 hI2
set_option maxRecDepth 20000 in
theorem law_image_000 {l : Launch} {G : tg_G} {b L i : Nat} {nm : String} {xs : Nat → Int32} (hi : i + 7 ≤ L) (hL : L ≤ 3584) {Inv : SS → SS → tg_I → tg_I → Prop} (A B : Nat → Nat) (c m : SS) {m2 : SS} (hp : (xs (nI i + (1 : Int32)).toNatClampNeg) = (0 : Int32)) (e7 : fX7_image m (0 : Int32) = some (1, m2)) (hI2 : ∀ BN : Nat → Nat, Inv c m2 (some (BN, cpW tg_ini c)) (none)) (kk : ∀ c2 m2 i0 i1, Inv c2 m2 i0 i1 → V l G ZL (EL b L xs) room_1 "TramGodLaw" nm code 4 ret 1115 [(0, .ref b), (1, .ref (A 0)), (2, .ref (B 0)), (3, .int (nI i))] [] (wL G A B c2 m2 i0 i1) (49 + ic i0 + ic i1) (375659 + isl i0 + isl i1)) : V l G ZL (EL b L xs) room_1 "TramGodLaw" nm code 4 ret 1046 [(0, .ref b), (1, .ref (A 0)), (2, .ref (B 0)), (3, .int (nI i))] [] (wL G A B c m (none) (none)) (49 + ic (none) + ic (none)) (375659 + isl (none) + isl (none)) := by
  refine V_aload_n eL_1046 1 rfl ?_
  refine V_aload_n eL_1047 0 rfl ?_
  refine V_iload_n eL_1048 3 rfl ?_
  refine V_iconst (v := (1 : Int32)) eL_1049 rfl ?_
  refine V_iadd eL_1050 ?_
  refine V_sld eL_1051 (lw_in 1 hi hL (by decide) rfl) ?_
  rw [hp]
  refine V_perm (wL_perm G A B c m (none) (none)) ?_
  refine V_callA (rest := []) (wr := wQ G A c ++ wM G B m) eL_1052 (kt_image_000 l G A c) tc_618 tw_615 tw_1 tw_616 tw_617 0 rfl rfl hdX6_image rfl ⟨Nat.le_of_ble_eq_true rfl, Nat.le_of_ble_eq_true rfl⟩ ⟨Nat.le_of_ble_eq_true rfl, Nat.le_of_ble_eq_true rfl⟩ rfl (Nat.le_of_ble_eq_true rfl) rfl (fun v w1 hq => ?_)
  obtain ⟨rfl, BN, rfl⟩ := hq
  refine V_perm ((wL_perm G A B c m (some (BN, cpW tg_ini c)) (none)).symm) ?_
  refine V_steq (st' := [.int 1]) rfl ?_
  refine V_aload_n eL_1055 2 rfl ?_
  refine V_aload_n eL_1056 0 rfl ?_
  refine V_iload_n eL_1057 3 rfl ?_
  refine V_iconst (v := (1 : Int32)) eL_1058 rfl ?_
  refine V_iadd eL_1059 ?_
  refine V_sld eL_1060 (lw_in 1 hi hL (by decide) rfl) ?_
  rw [hp]
  refine V_callBi (rest := [.int 1]) (wl := wC G A c ++ imC G A (some (BN, cpW tg_ini c)) (none)) (w1 := wM G B m2) eL_1061 (ctX7_image l G B m (0 : Int32) e7) tc_1005 tw_1002 tw_8 tw_1003 tw_1004 0 rfl rfl hdX7_image rfl ⟨Nat.le_of_ble_eq_true rfl, Nat.le_of_ble_eq_true rfl⟩ ⟨Nat.le_of_ble_eq_true rfl, Nat.le_of_ble_eq_true rfl⟩ rfl (Nat.le_of_ble_eq_true rfl) ?_
  refine V_icmp_eq (tgt := 1115) eL_1064 rfl (fun _ => ?_) (fun hb => absurd rfl hb)
  exact kk c m2 _ _ (hI2 BN)
set_option maxRecDepth 20000 in
theorem law_image_001 {l : Launch} {G : tg_G} {b L i : Nat} {nm : String} {xs : Nat → Int32} (hi : i + 7 ≤ L) (hL : L ≤ 3584) {Inv : SS → SS → tg_I → tg_I → Prop} (A B : Nat → Nat) (c m : SS) (b1 : Nat → Nat) (j1 : SS) {m2 : SS} (hp : (xs (nI i + (1 : Int32)).toNatClampNeg) = (0 : Int32)) (e7 : fX7_image m (0 : Int32) = some (1, m2)) (hI2 : ∀ BN : Nat → Nat, Inv c m2 (some (BN, cpW tg_ini c)) (some (b1, j1))) (kk : ∀ c2 m2 i0 i1, Inv c2 m2 i0 i1 → V l G ZL (EL b L xs) room_1 "TramGodLaw" nm code 4 ret 1115 [(0, .ref b), (1, .ref (A 0)), (2, .ref (B 0)), (3, .int (nI i))] [] (wL G A B c2 m2 i0 i1) (49 + ic i0 + ic i1) (375659 + isl i0 + isl i1)) : V l G ZL (EL b L xs) room_1 "TramGodLaw" nm code 4 ret 1046 [(0, .ref b), (1, .ref (A 0)), (2, .ref (B 0)), (3, .int (nI i))] [] (wL G A B c m (none) (some (b1, j1))) (49 + ic (none) + ic (some (b1, j1))) (375659 + isl (none) + isl (some (b1, j1))) := by
  refine V_aload_n eL_1046 1 rfl ?_
  refine V_aload_n eL_1047 0 rfl ?_
  refine V_iload_n eL_1048 3 rfl ?_
  refine V_iconst (v := (1 : Int32)) eL_1049 rfl ?_
  refine V_iadd eL_1050 ?_
  refine V_sld eL_1051 (lw_in 1 hi hL (by decide) rfl) ?_
  rw [hp]
  refine V_perm (wL_perm G A B c m (none) (some (b1, j1))) ?_
  refine V_callA (rest := []) (wr := wQ G A c ++ wM G B m) eL_1052 (kt_image_001 l G A c b1 j1) tc_618 tw_615 tw_1 tw_616 tw_617 0 rfl rfl hdX6_image rfl ⟨Nat.le_of_ble_eq_true rfl, Nat.le_of_ble_eq_true rfl⟩ ⟨Nat.le_of_ble_eq_true rfl, Nat.le_of_ble_eq_true rfl⟩ rfl (Nat.le_of_ble_eq_true rfl) rfl (fun v w1 hq => ?_)
  obtain ⟨rfl, BN, rfl⟩ := hq
  refine V_perm ((wL_perm G A B c m (some (BN, cpW tg_ini c)) (some (b1, j1))).symm) ?_
  refine V_steq (st' := [.int 1]) rfl ?_
  refine V_aload_n eL_1055 2 rfl ?_
  refine V_aload_n eL_1056 0 rfl ?_
  refine V_iload_n eL_1057 3 rfl ?_
  refine V_iconst (v := (1 : Int32)) eL_1058 rfl ?_
  refine V_iadd eL_1059 ?_
  refine V_sld eL_1060 (lw_in 1 hi hL (by decide) rfl) ?_
  rw [hp]
  refine V_callBi (rest := [.int 1]) (wl := wC G A c ++ imC G A (some (BN, cpW tg_ini c)) (some (b1, j1))) (w1 := wM G B m2) eL_1061 (ctX7_image l G B m (0 : Int32) e7) tc_1005 tw_1002 tw_8 tw_1003 tw_1004 0 rfl rfl hdX7_image rfl ⟨Nat.le_of_ble_eq_true rfl, Nat.le_of_ble_eq_true rfl⟩ ⟨Nat.le_of_ble_eq_true rfl, Nat.le_of_ble_eq_true rfl⟩ rfl (Nat.le_of_ble_eq_true rfl) ?_
  refine V_icmp_eq (tgt := 1115) eL_1064 rfl (fun _ => ?_) (fun hb => absurd rfl hb)
  exact kk c m2 _ _ (hI2 BN)
set_option maxRecDepth 20000 in
theorem law_image_010 {l : Launch} {G : tg_G} {b L i : Nat} {nm : String} {xs : Nat → Int32} (hi : i + 7 ≤ L) (hL : L ≤ 3584) {Inv : SS → SS → tg_I → tg_I → Prop} (A B : Nat → Nat) (c m : SS) (b0 : Nat → Nat) (j0 : SS) {m2 : SS} (hp : (xs (nI i + (1 : Int32)).toNatClampNeg) = (0 : Int32)) (e7 : fX7_image m (0 : Int32) = some (1, m2)) (hI2 : ∀ BN : Nat → Nat, Inv c m2 (some (b0, cpW j0 c)) (none)) (kk : ∀ c2 m2 i0 i1, Inv c2 m2 i0 i1 → V l G ZL (EL b L xs) room_1 "TramGodLaw" nm code 4 ret 1115 [(0, .ref b), (1, .ref (A 0)), (2, .ref (B 0)), (3, .int (nI i))] [] (wL G A B c2 m2 i0 i1) (49 + ic i0 + ic i1) (375659 + isl i0 + isl i1)) : V l G ZL (EL b L xs) room_1 "TramGodLaw" nm code 4 ret 1046 [(0, .ref b), (1, .ref (A 0)), (2, .ref (B 0)), (3, .int (nI i))] [] (wL G A B c m (some (b0, j0)) (none)) (49 + ic (some (b0, j0)) + ic (none)) (375659 + isl (some (b0, j0)) + isl (none)) := by
  refine V_aload_n eL_1046 1 rfl ?_
  refine V_aload_n eL_1047 0 rfl ?_
  refine V_iload_n eL_1048 3 rfl ?_
  refine V_iconst (v := (1 : Int32)) eL_1049 rfl ?_
  refine V_iadd eL_1050 ?_
  refine V_sld eL_1051 (lw_in 1 hi hL (by decide) rfl) ?_
  rw [hp]
  refine V_perm (wL_perm G A B c m (some (b0, j0)) (none)) ?_
  refine V_callA (rest := []) (wr := wQ G A c ++ wM G B m) eL_1052 (kt_image_010 l G A c b0 j0) tc_618 tw_615 tw_1 tw_616 tw_617 0 rfl rfl hdX6_image rfl ⟨Nat.le_of_ble_eq_true rfl, Nat.le_of_ble_eq_true rfl⟩ ⟨Nat.le_of_ble_eq_true rfl, Nat.le_of_ble_eq_true rfl⟩ rfl (Nat.le_of_ble_eq_true rfl) rfl (fun v w1 hq => ?_)
  obtain ⟨rfl, rfl⟩ := hq
  refine V_perm ((wL_perm G A B c m (some (b0, cpW j0 c)) (none)).symm) ?_
  refine V_steq (st' := [.int 1]) rfl ?_
  refine V_aload_n eL_1055 2 rfl ?_
  refine V_aload_n eL_1056 0 rfl ?_
  refine V_iload_n eL_1057 3 rfl ?_
  refine V_iconst (v := (1 : Int32)) eL_1058 rfl ?_
  refine V_iadd eL_1059 ?_
  refine V_sld eL_1060 (lw_in 1 hi hL (by decide) rfl) ?_
  rw [hp]
  refine V_callBi (rest := [.int 1]) (wl := wC G A c ++ imC G A (some (b0, cpW j0 c)) (none)) (w1 := wM G B m2) eL_1061 (ctX7_image l G B m (0 : Int32) e7) tc_1005 tw_1002 tw_8 tw_1003 tw_1004 0 rfl rfl hdX7_image rfl ⟨Nat.le_of_ble_eq_true rfl, Nat.le_of_ble_eq_true rfl⟩ ⟨Nat.le_of_ble_eq_true rfl, Nat.le_of_ble_eq_true rfl⟩ rfl (Nat.le_of_ble_eq_true rfl) ?_
  refine V_icmp_eq (tgt := 1115) eL_1064 rfl (fun _ => ?_) (fun hb => absurd rfl hb)
  exact kk c m2 _ _ (hI2 (fun _ => 0))
set_option maxRecDepth 20000 in
theorem law_image_011 {l : Launch} {G : tg_G} {b L i : Nat} {nm : String} {xs : Nat → Int32} (hi : i + 7 ≤ L) (hL : L ≤ 3584) {Inv : SS → SS → tg_I → tg_I → Prop} (A B : Nat → Nat) (c m : SS) (b0 : Nat → Nat) (j0 : SS) (b1 : Nat → Nat) (j1 : SS) {m2 : SS} (hp : (xs (nI i + (1 : Int32)).toNatClampNeg) = (0 : Int32)) (e7 : fX7_image m (0 : Int32) = some (1, m2)) (hI2 : ∀ BN : Nat → Nat, Inv c m2 (some (b0, cpW j0 c)) (some (b1, j1))) (kk : ∀ c2 m2 i0 i1, Inv c2 m2 i0 i1 → V l G ZL (EL b L xs) room_1 "TramGodLaw" nm code 4 ret 1115 [(0, .ref b), (1, .ref (A 0)), (2, .ref (B 0)), (3, .int (nI i))] [] (wL G A B c2 m2 i0 i1) (49 + ic i0 + ic i1) (375659 + isl i0 + isl i1)) : V l G ZL (EL b L xs) room_1 "TramGodLaw" nm code 4 ret 1046 [(0, .ref b), (1, .ref (A 0)), (2, .ref (B 0)), (3, .int (nI i))] [] (wL G A B c m (some (b0, j0)) (some (b1, j1))) (49 + ic (some (b0, j0)) + ic (some (b1, j1))) (375659 + isl (some (b0, j0)) + isl (some (b1, j1))) := by
  refine V_aload_n eL_1046 1 rfl ?_
  refine V_aload_n eL_1047 0 rfl ?_
  refine V_iload_n eL_1048 3 rfl ?_
  refine V_iconst (v := (1 : Int32)) eL_1049 rfl ?_
  refine V_iadd eL_1050 ?_
  refine V_sld eL_1051 (lw_in 1 hi hL (by decide) rfl) ?_
  rw [hp]
  refine V_perm (wL_perm G A B c m (some (b0, j0)) (some (b1, j1))) ?_
  refine V_callA (rest := []) (wr := wQ G A c ++ wM G B m) eL_1052 (kt_image_011 l G A c b0 j0 b1 j1) tc_618 tw_615 tw_1 tw_616 tw_617 0 rfl rfl hdX6_image rfl ⟨Nat.le_of_ble_eq_true rfl, Nat.le_of_ble_eq_true rfl⟩ ⟨Nat.le_of_ble_eq_true rfl, Nat.le_of_ble_eq_true rfl⟩ rfl (Nat.le_of_ble_eq_true rfl) rfl (fun v w1 hq => ?_)
  obtain ⟨rfl, rfl⟩ := hq
  refine V_perm ((wL_perm G A B c m (some (b0, cpW j0 c)) (some (b1, j1))).symm) ?_
  refine V_steq (st' := [.int 1]) rfl ?_
  refine V_aload_n eL_1055 2 rfl ?_
  refine V_aload_n eL_1056 0 rfl ?_
  refine V_iload_n eL_1057 3 rfl ?_
  refine V_iconst (v := (1 : Int32)) eL_1058 rfl ?_
  refine V_iadd eL_1059 ?_
  refine V_sld eL_1060 (lw_in 1 hi hL (by decide) rfl) ?_
  rw [hp]
  refine V_callBi (rest := [.int 1]) (wl := wC G A c ++ imC G A (some (b0, cpW j0 c)) (some (b1, j1))) (w1 := wM G B m2) eL_1061 (ctX7_image l G B m (0 : Int32) e7) tc_1005 tw_1002 tw_8 tw_1003 tw_1004 0 rfl rfl hdX7_image rfl ⟨Nat.le_of_ble_eq_true rfl, Nat.le_of_ble_eq_true rfl⟩ ⟨Nat.le_of_ble_eq_true rfl, Nat.le_of_ble_eq_true rfl⟩ rfl (Nat.le_of_ble_eq_true rfl) ?_
  refine V_icmp_eq (tgt := 1115) eL_1064 rfl (fun _ => ?_) (fun hb => absurd rfl hb)
  exact kk c m2 _ _ (hI2 (fun _ => 0))
set_option maxRecDepth 20000 in
theorem law_image_100 {l : Launch} {G : tg_G} {b L i : Nat} {nm : String} {xs : Nat → Int32} (hi : i + 7 ≤ L) (hL : L ≤ 3584) {Inv : SS → SS → tg_I → tg_I → Prop} (A B : Nat → Nat) (c m : SS) {m2 : SS} (hp : (xs (nI i + (1 : Int32)).toNatClampNeg) = (1 : Int32)) (e7 : fX7_image m (1 : Int32) = some (1, m2)) (hI2 : ∀ BN : Nat → Nat, Inv c m2 (none) (some (BN, cpW tg_ini c))) (kk : ∀ c2 m2 i0 i1, Inv c2 m2 i0 i1 → V l G ZL (EL b L xs) room_1 "TramGodLaw" nm code 4 ret 1115 [(0, .ref b), (1, .ref (A 0)), (2, .ref (B 0)), (3, .int (nI i))] [] (wL G A B c2 m2 i0 i1) (49 + ic i0 + ic i1) (375659 + isl i0 + isl i1)) : V l G ZL (EL b L xs) room_1 "TramGodLaw" nm code 4 ret 1046 [(0, .ref b), (1, .ref (A 0)), (2, .ref (B 0)), (3, .int (nI i))] [] (wL G A B c m (none) (none)) (49 + ic (none) + ic (none)) (375659 + isl (none) + isl (none)) := by
  refine V_aload_n eL_1046 1 rfl ?_
  refine V_aload_n eL_1047 0 rfl ?_
  refine V_iload_n eL_1048 3 rfl ?_
  refine V_iconst (v := (1 : Int32)) eL_1049 rfl ?_
  refine V_iadd eL_1050 ?_
  refine V_sld eL_1051 (lw_in 1 hi hL (by decide) rfl) ?_
  rw [hp]
  refine V_perm (wL_perm G A B c m (none) (none)) ?_
  refine V_callA (rest := []) (wr := wQ G A c ++ wM G B m) eL_1052 (kt_image_100 l G A c) tc_618 tw_615 tw_1 tw_616 tw_617 0 rfl rfl hdX6_image rfl ⟨Nat.le_of_ble_eq_true rfl, Nat.le_of_ble_eq_true rfl⟩ ⟨Nat.le_of_ble_eq_true rfl, Nat.le_of_ble_eq_true rfl⟩ rfl (Nat.le_of_ble_eq_true rfl) rfl (fun v w1 hq => ?_)
  obtain ⟨rfl, BN, rfl⟩ := hq
  refine V_perm ((wL_perm G A B c m (none) (some (BN, cpW tg_ini c))).symm) ?_
  refine V_steq (st' := [.int 1]) rfl ?_
  refine V_aload_n eL_1055 2 rfl ?_
  refine V_aload_n eL_1056 0 rfl ?_
  refine V_iload_n eL_1057 3 rfl ?_
  refine V_iconst (v := (1 : Int32)) eL_1058 rfl ?_
  refine V_iadd eL_1059 ?_
  refine V_sld eL_1060 (lw_in 1 hi hL (by decide) rfl) ?_
  rw [hp]
  refine V_callBi (rest := [.int 1]) (wl := wC G A c ++ imC G A (none) (some (BN, cpW tg_ini c))) (w1 := wM G B m2) eL_1061 (ctX7_image l G B m (1 : Int32) e7) tc_1005 tw_1002 tw_8 tw_1003 tw_1004 0 rfl rfl hdX7_image rfl ⟨Nat.le_of_ble_eq_true rfl, Nat.le_of_ble_eq_true rfl⟩ ⟨Nat.le_of_ble_eq_true rfl, Nat.le_of_ble_eq_true rfl⟩ rfl (Nat.le_of_ble_eq_true rfl) ?_
  refine V_icmp_eq (tgt := 1115) eL_1064 rfl (fun _ => ?_) (fun hb => absurd rfl hb)
  exact kk c m2 _ _ (hI2 BN)
set_option maxRecDepth 20000 in
theorem law_image_101 {l : Launch} {G : tg_G} {b L i : Nat} {nm : String} {xs : Nat → Int32} (hi : i + 7 ≤ L) (hL : L ≤ 3584) {Inv : SS → SS → tg_I → tg_I → Prop} (A B : Nat → Nat) (c m : SS) (b1 : Nat → Nat) (j1 : SS) {m2 : SS} (hp : (xs (nI i + (1 : Int32)).toNatClampNeg) = (1 : Int32)) (e7 : fX7_image m (1 : Int32) = some (1, m2)) (hI2 : ∀ BN : Nat → Nat, Inv c m2 (none) (some (b1, cpW j1 c))) (kk : ∀ c2 m2 i0 i1, Inv c2 m2 i0 i1 → V l G ZL (EL b L xs) room_1 "TramGodLaw" nm code 4 ret 1115 [(0, .ref b), (1, .ref (A 0)), (2, .ref (B 0)), (3, .int (nI i))] [] (wL G A B c2 m2 i0 i1) (49 + ic i0 + ic i1) (375659 + isl i0 + isl i1)) : V l G ZL (EL b L xs) room_1 "TramGodLaw" nm code 4 ret 1046 [(0, .ref b), (1, .ref (A 0)), (2, .ref (B 0)), (3, .int (nI i))] [] (wL G A B c m (none) (some (b1, j1))) (49 + ic (none) + ic (some (b1, j1))) (375659 + isl (none) + isl (some (b1, j1))) := by
  refine V_aload_n eL_1046 1 rfl ?_
  refine V_aload_n eL_1047 0 rfl ?_
  refine V_iload_n eL_1048 3 rfl ?_
  refine V_iconst (v := (1 : Int32)) eL_1049 rfl ?_
  refine V_iadd eL_1050 ?_
  refine V_sld eL_1051 (lw_in 1 hi hL (by decide) rfl) ?_
  rw [hp]
  refine V_perm (wL_perm G A B c m (none) (some (b1, j1))) ?_
  refine V_callA (rest := []) (wr := wQ G A c ++ wM G B m) eL_1052 (kt_image_101 l G A c b1 j1) tc_618 tw_615 tw_1 tw_616 tw_617 0 rfl rfl hdX6_image rfl ⟨Nat.le_of_ble_eq_true rfl, Nat.le_of_ble_eq_true rfl⟩ ⟨Nat.le_of_ble_eq_true rfl, Nat.le_of_ble_eq_true rfl⟩ rfl (Nat.le_of_ble_eq_true rfl) rfl (fun v w1 hq => ?_)
  obtain ⟨rfl, rfl⟩ := hq
  refine V_perm ((wL_perm G A B c m (none) (some (b1, cpW j1 c))).symm) ?_
  refine V_steq (st' := [.int 1]) rfl ?_
  refine V_aload_n eL_1055 2 rfl ?_
  refine V_aload_n eL_1056 0 rfl ?_
  refine V_iload_n eL_1057 3 rfl ?_
  refine V_iconst (v := (1 : Int32)) eL_1058 rfl ?_
  refine V_iadd eL_1059 ?_
  refine V_sld eL_1060 (lw_in 1 hi hL (by decide) rfl) ?_
  rw [hp]
  refine V_callBi (rest := [.int 1]) (wl := wC G A c ++ imC G A (none) (some (b1, cpW j1 c))) (w1 := wM G B m2) eL_1061 (ctX7_image l G B m (1 : Int32) e7) tc_1005 tw_1002 tw_8 tw_1003 tw_1004 0 rfl rfl hdX7_image rfl ⟨Nat.le_of_ble_eq_true rfl, Nat.le_of_ble_eq_true rfl⟩ ⟨Nat.le_of_ble_eq_true rfl, Nat.le_of_ble_eq_true rfl⟩ rfl (Nat.le_of_ble_eq_true rfl) ?_
  refine V_icmp_eq (tgt := 1115) eL_1064 rfl (fun _ => ?_) (fun hb => absurd rfl hb)
  exact kk c m2 _ _ (hI2 (fun _ => 0))
set_option maxRecDepth 20000 in
theorem law_image_110 {l : Launch} {G : tg_G} {b L i : Nat} {nm : String} {xs : Nat → Int32} (hi : i + 7 ≤ L) (hL : L ≤ 3584) {Inv : SS → SS → tg_I → tg_I → Prop} (A B : Nat → Nat) (c m : SS) (b0 : Nat → Nat) (j0 : SS) {m2 : SS} (hp : (xs (nI i + (1 : Int32)).toNatClampNeg) = (1 : Int32)) (e7 : fX7_image m (1 : Int32) = some (1, m2)) (hI2 : ∀ BN : Nat → Nat, Inv c m2 (some (b0, j0)) (some (BN, cpW tg_ini c))) (kk : ∀ c2 m2 i0 i1, Inv c2 m2 i0 i1 → V l G ZL (EL b L xs) room_1 "TramGodLaw" nm code 4 ret 1115 [(0, .ref b), (1, .ref (A 0)), (2, .ref (B 0)), (3, .int (nI i))] [] (wL G A B c2 m2 i0 i1) (49 + ic i0 + ic i1) (375659 + isl i0 + isl i1)) : V l G ZL (EL b L xs) room_1 "TramGodLaw" nm code 4 ret 1046 [(0, .ref b), (1, .ref (A 0)), (2, .ref (B 0)), (3, .int (nI i))] [] (wL G A B c m (some (b0, j0)) (none)) (49 + ic (some (b0, j0)) + ic (none)) (375659 + isl (some (b0, j0)) + isl (none)) := by
  refine V_aload_n eL_1046 1 rfl ?_
  refine V_aload_n eL_1047 0 rfl ?_
  refine V_iload_n eL_1048 3 rfl ?_
  refine V_iconst (v := (1 : Int32)) eL_1049 rfl ?_
  refine V_iadd eL_1050 ?_
  refine V_sld eL_1051 (lw_in 1 hi hL (by decide) rfl) ?_
  rw [hp]
  refine V_perm (wL_perm G A B c m (some (b0, j0)) (none)) ?_
  refine V_callA (rest := []) (wr := wQ G A c ++ wM G B m) eL_1052 (kt_image_110 l G A c b0 j0) tc_618 tw_615 tw_1 tw_616 tw_617 0 rfl rfl hdX6_image rfl ⟨Nat.le_of_ble_eq_true rfl, Nat.le_of_ble_eq_true rfl⟩ ⟨Nat.le_of_ble_eq_true rfl, Nat.le_of_ble_eq_true rfl⟩ rfl (Nat.le_of_ble_eq_true rfl) rfl (fun v w1 hq => ?_)
  obtain ⟨rfl, BN, rfl⟩ := hq
  refine V_perm ((wL_perm G A B c m (some (b0, j0)) (some (BN, cpW tg_ini c))).symm) ?_
  refine V_steq (st' := [.int 1]) rfl ?_
  refine V_aload_n eL_1055 2 rfl ?_
  refine V_aload_n eL_1056 0 rfl ?_
  refine V_iload_n eL_1057 3 rfl ?_
  refine V_iconst (v := (1 : Int32)) eL_1058 rfl ?_
  refine V_iadd eL_1059 ?_
  refine V_sld eL_1060 (lw_in 1 hi hL (by decide) rfl) ?_
  rw [hp]
  refine V_callBi (rest := [.int 1]) (wl := wC G A c ++ imC G A (some (b0, j0)) (some (BN, cpW tg_ini c))) (w1 := wM G B m2) eL_1061 (ctX7_image l G B m (1 : Int32) e7) tc_1005 tw_1002 tw_8 tw_1003 tw_1004 0 rfl rfl hdX7_image rfl ⟨Nat.le_of_ble_eq_true rfl, Nat.le_of_ble_eq_true rfl⟩ ⟨Nat.le_of_ble_eq_true rfl, Nat.le_of_ble_eq_true rfl⟩ rfl (Nat.le_of_ble_eq_true rfl) ?_
  refine V_icmp_eq (tgt := 1115) eL_1064 rfl (fun _ => ?_) (fun hb => absurd rfl hb)
  exact kk c m2 _ _ (hI2 BN)
set_option maxRecDepth 20000 in
theorem law_image_111 {l : Launch} {G : tg_G} {b L i : Nat} {nm : String} {xs : Nat → Int32} (hi : i + 7 ≤ L) (hL : L ≤ 3584) {Inv : SS → SS → tg_I → tg_I → Prop} (A B : Nat → Nat) (c m : SS) (b0 : Nat → Nat) (j0 : SS) (b1 : Nat → Nat) (j1 : SS) {m2 : SS} (hp : (xs (nI i + (1 : Int32)).toNatClampNeg) = (1 : Int32)) (e7 : fX7_image m (1 : Int32) = some (1, m2)) (hI2 : ∀ BN : Nat → Nat, Inv c m2 (some (b0, j0)) (some (b1, cpW j1 c))) (kk : ∀ c2 m2 i0 i1, Inv c2 m2 i0 i1 → V l G ZL (EL b L xs) room_1 "TramGodLaw" nm code 4 ret 1115 [(0, .ref b), (1, .ref (A 0)), (2, .ref (B 0)), (3, .int (nI i))] [] (wL G A B c2 m2 i0 i1) (49 + ic i0 + ic i1) (375659 + isl i0 + isl i1)) : V l G ZL (EL b L xs) room_1 "TramGodLaw" nm code 4 ret 1046 [(0, .ref b), (1, .ref (A 0)), (2, .ref (B 0)), (3, .int (nI i))] [] (wL G A B c m (some (b0, j0)) (some (b1, j1))) (49 + ic (some (b0, j0)) + ic (some (b1, j1))) (375659 + isl (some (b0, j0)) + isl (some (b1, j1))) := by
  refine V_aload_n eL_1046 1 rfl ?_
  refine V_aload_n eL_1047 0 rfl ?_
  refine V_iload_n eL_1048 3 rfl ?_
  refine V_iconst (v := (1 : Int32)) eL_1049 rfl ?_
  refine V_iadd eL_1050 ?_
  refine V_sld eL_1051 (lw_in 1 hi hL (by decide) rfl) ?_
  rw [hp]
  refine V_perm (wL_perm G A B c m (some (b0, j0)) (some (b1, j1))) ?_
  refine V_callA (rest := []) (wr := wQ G A c ++ wM G B m) eL_1052 (kt_image_111 l G A c b0 j0 b1 j1) tc_618 tw_615 tw_1 tw_616 tw_617 0 rfl rfl hdX6_image rfl ⟨Nat.le_of_ble_eq_true rfl, Nat.le_of_ble_eq_true rfl⟩ ⟨Nat.le_of_ble_eq_true rfl, Nat.le_of_ble_eq_true rfl⟩ rfl (Nat.le_of_ble_eq_true rfl) rfl (fun v w1 hq => ?_)
  obtain ⟨rfl, rfl⟩ := hq
  refine V_perm ((wL_perm G A B c m (some (b0, j0)) (some (b1, cpW j1 c))).symm) ?_
  refine V_steq (st' := [.int 1]) rfl ?_
  refine V_aload_n eL_1055 2 rfl ?_
  refine V_aload_n eL_1056 0 rfl ?_
  refine V_iload_n eL_1057 3 rfl ?_
  refine V_iconst (v := (1 : Int32)) eL_1058 rfl ?_
  refine V_iadd eL_1059 ?_
  refine V_sld eL_1060 (lw_in 1 hi hL (by decide) rfl) ?_
  rw [hp]
  refine V_callBi (rest := [.int 1]) (wl := wC G A c ++ imC G A (some (b0, j0)) (some (b1, cpW j1 c))) (w1 := wM G B m2) eL_1061 (ctX7_image l G B m (1 : Int32) e7) tc_1005 tw_1002 tw_8 tw_1003 tw_1004 0 rfl rfl hdX7_image rfl ⟨Nat.le_of_ble_eq_true rfl, Nat.le_of_ble_eq_true rfl⟩ ⟨Nat.le_of_ble_eq_true rfl, Nat.le_of_ble_eq_true rfl⟩ rfl (Nat.le_of_ble_eq_true rfl) ?_
  refine V_icmp_eq (tgt := 1115) eL_1064 rfl (fun _ => ?_) (fun hb => absurd rfl hb)
  exact kk c m2 _ _ (hI2 (fun _ => 0))
theorem law_image {l : Launch} {G : tg_G} {b L i : Nat} {nm : String} {xs : Nat → Int32} (hi : i + 7 ≤ L) (hL : L ≤ 3584) {Inv : SS → SS → tg_I → tg_I → Prop} (A B : Nat → Nat) (c m : SS) (i0 i1 : tg_I) (ok : OK_image Inv) (hI : Inv c m i0 i1) (kk : ∀ c2 m2 i0 i1, Inv c2 m2 i0 i1 → V l G ZL (EL b L xs) room_1 "TramGodLaw" nm code 4 ret 1115 [(0, .ref b), (1, .ref (A 0)), (2, .ref (B 0)), (3, .int (nI i))] [] (wL G A B c2 m2 i0 i1) (49 + ic i0 + ic i1) (375659 + isl i0 + isl i1)) : V l G ZL (EL b L xs) room_1 "TramGodLaw" nm code 4 ret 1046 [(0, .ref b), (1, .ref (A 0)), (2, .ref (B 0)), (3, .int (nI i))] [] (wL G A B c m i0 i1) (49 + ic i0 + ic i1) (375659 + isl i0 + isl i1) := by
  obtain ⟨ho, ⟨ma, ea, ha⟩, mb, eb, hb⟩ := ok c m i0 i1 hI
  by_cases hw : fX6_within (xs (nI i + (1 : Int32)).toNatClampNeg) 0 1 = 0
  · obtain ⟨m2, e7, h2⟩ := ho _ hw
    exact law_image_out hi hL A B c m i0 i1 hw e7 h2 kk
  · rcases within01 hw with hp | hp
    · rcases i0 with _ | ⟨b0, j0⟩ <;> rcases i1 with _ | ⟨b1, j1⟩
      · exact law_image_000 hi hL A B c m hp ea ha kk
      · exact law_image_001 hi hL A B c m b1 j1 hp ea ha kk
      · exact law_image_010 hi hL A B c m b0 j0 hp ea ha kk
      · exact law_image_011 hi hL A B c m b0 j0 b1 j1 hp ea ha kk
    · rcases i0 with _ | ⟨b0, j0⟩ <;> rcases i1 with _ | ⟨b1, j1⟩
      · exact law_image_100 hi hL A B c m hp eb hb kk
      · exact law_image_101 hi hL A B c m b1 j1 hp eb hb kk
      · exact law_image_110 hi hL A B c m b0 j0 hp eb hb kk
      · exact law_image_111 hi hL A B c m b0 j0 b1 j1 hp eb hb kk
set_option maxRecDepth 20000 in
theorem law_restore_out {l : Launch} {G : tg_G} {b L i : Nat} {nm : String} {xs : Nat → Int32} (hi : i + 7 ≤ L) (hL : L ≤ 3584) {Inv : SS → SS → tg_I → tg_I → Prop} (A B : Nat → Nat) (c m : SS) (i0 i1 : tg_I) {m2 : SS} (hp : fX6_within (xs (nI i + (1 : Int32)).toNatClampNeg) 0 1 = 0) (e7 : fX7_restore m (xs (nI i + (1 : Int32)).toNatClampNeg) = some (-2, m2)) (hI2 : Inv c m2 i0 i1) (kk : ∀ c2 m2 i0 i1, Inv c2 m2 i0 i1 → V l G ZL (EL b L xs) room_1 "TramGodLaw" nm code 4 ret 1115 [(0, .ref b), (1, .ref (A 0)), (2, .ref (B 0)), (3, .int (nI i))] [] (wL G A B c2 m2 i0 i1) (49 + ic i0 + ic i1) (375659 + isl i0 + isl i1)) : V l G ZL (EL b L xs) room_1 "TramGodLaw" nm code 4 ret 1069 [(0, .ref b), (1, .ref (A 0)), (2, .ref (B 0)), (3, .int (nI i))] [] (wL G A B c m i0 i1) (49 + ic i0 + ic i1) (375659 + isl i0 + isl i1) := by
  refine V_aload_n eL_1069 1 rfl ?_
  refine V_aload_n eL_1070 0 rfl ?_
  refine V_iload_n eL_1071 3 rfl ?_
  refine V_iconst (v := (1 : Int32)) eL_1072 rfl ?_
  refine V_iadd eL_1073 ?_
  refine V_sld eL_1074 (lw_in 1 hi hL (by decide) rfl) ?_
  refine V_callAi (rest := []) (wr := imC G A i0 i1 ++ wM G B m) (w' := wL G A B c m i0 i1) eL_1075 (kt_restore_out l G A (xs (nI i + (1 : Int32)).toNatClampNeg) (wC G A c) hp) tc_629 tw_626 tw_1 tw_627 tw_628 0 rfl rfl hdX6_restore rfl ⟨Nat.le_of_ble_eq_true rfl, Nat.le_of_ble_eq_true rfl⟩ ⟨ic_le2 i0 i1, isl_le2 i0 i1⟩ rfl (Nat.le_of_ble_eq_true rfl) (List.append_assoc _ _ _) (List.append_assoc _ _ _).symm ?_
  refine V_aload_n eL_1078 2 rfl ?_
  refine V_aload_n eL_1079 0 rfl ?_
  refine V_iload_n eL_1080 3 rfl ?_
  refine V_iconst (v := (1 : Int32)) eL_1081 rfl ?_
  refine V_iadd eL_1082 ?_
  refine V_sld eL_1083 (lw_in 1 hi hL (by decide) rfl) ?_
  refine V_callBi (rest := [.int (-2)]) (wl := wC G A c ++ imC G A i0 i1) (w1 := wM G B m2) eL_1084 (ctX7_restore l G B m (xs (nI i + (1 : Int32)).toNatClampNeg) e7) tc_1017 tw_1014 tw_8 tw_1015 tw_1016 0 rfl rfl hdX7_restore rfl ⟨Nat.le_of_ble_eq_true rfl, Nat.le_of_ble_eq_true rfl⟩ ⟨ic_le2 i0 i1, isl_le2 i0 i1⟩ rfl (Nat.le_of_ble_eq_true rfl) ?_
  refine V_icmp_eq (tgt := 1115) eL_1087 rfl (fun _ => ?_) (fun hb => absurd rfl hb)
  exact kk c m2 i0 i1 hI2
set_option maxRecDepth 20000 in
theorem law_restore_000 {l : Launch} {G : tg_G} {b L i : Nat} {nm : String} {xs : Nat → Int32} (hi : i + 7 ≤ L) (hL : L ≤ 3584) {Inv : SS → SS → tg_I → tg_I → Prop} (A B : Nat → Nat) (c m : SS) {m2 : SS} (hp : (xs (nI i + (1 : Int32)).toNatClampNeg) = (0 : Int32)) (e7 : fX7_restore m (0 : Int32) = some ((-3), m2)) (hI2 : Inv c m2 (none) (none)) (kk : ∀ c2 m2 i0 i1, Inv c2 m2 i0 i1 → V l G ZL (EL b L xs) room_1 "TramGodLaw" nm code 4 ret 1115 [(0, .ref b), (1, .ref (A 0)), (2, .ref (B 0)), (3, .int (nI i))] [] (wL G A B c2 m2 i0 i1) (49 + ic i0 + ic i1) (375659 + isl i0 + isl i1)) : V l G ZL (EL b L xs) room_1 "TramGodLaw" nm code 4 ret 1069 [(0, .ref b), (1, .ref (A 0)), (2, .ref (B 0)), (3, .int (nI i))] [] (wL G A B c m (none) (none)) (49 + ic (none) + ic (none)) (375659 + isl (none) + isl (none)) := by
  refine V_aload_n eL_1069 1 rfl ?_
  refine V_aload_n eL_1070 0 rfl ?_
  refine V_iload_n eL_1071 3 rfl ?_
  refine V_iconst (v := (1 : Int32)) eL_1072 rfl ?_
  refine V_iadd eL_1073 ?_
  refine V_sld eL_1074 (lw_in 1 hi hL (by decide) rfl) ?_
  rw [hp]
  refine V_perm (wL_perm G A B c m (none) (none)) ?_
  refine V_callA (rest := []) (wr := wQ G A c ++ wM G B m) eL_1075 (kt_restore_000 l G A c) tc_629 tw_626 tw_1 tw_627 tw_628 0 rfl rfl hdX6_restore rfl ⟨Nat.le_of_ble_eq_true rfl, Nat.le_of_ble_eq_true rfl⟩ ⟨Nat.le_of_ble_eq_true rfl, Nat.le_of_ble_eq_true rfl⟩ rfl (Nat.le_of_ble_eq_true rfl) rfl (fun v w1 hq => ?_)
  obtain ⟨rfl, rfl⟩ := hq
  refine V_perm ((wL_perm G A B c m (none) (none)).symm) ?_
  refine V_steq (st' := [.int (-3)]) rfl ?_
  refine V_aload_n eL_1078 2 rfl ?_
  refine V_aload_n eL_1079 0 rfl ?_
  refine V_iload_n eL_1080 3 rfl ?_
  refine V_iconst (v := (1 : Int32)) eL_1081 rfl ?_
  refine V_iadd eL_1082 ?_
  refine V_sld eL_1083 (lw_in 1 hi hL (by decide) rfl) ?_
  rw [hp]
  refine V_callBi (rest := [.int (-3)]) (wl := wC G A c ++ imC G A (none) (none)) (w1 := wM G B m2) eL_1084 (ctX7_restore l G B m (0 : Int32) e7) tc_1017 tw_1014 tw_8 tw_1015 tw_1016 0 rfl rfl hdX7_restore rfl ⟨Nat.le_of_ble_eq_true rfl, Nat.le_of_ble_eq_true rfl⟩ ⟨Nat.le_of_ble_eq_true rfl, Nat.le_of_ble_eq_true rfl⟩ rfl (Nat.le_of_ble_eq_true rfl) ?_
  refine V_icmp_eq (tgt := 1115) eL_1087 rfl (fun _ => ?_) (fun hb => absurd rfl hb)
  exact kk c m2 _ _ hI2
set_option maxRecDepth 20000 in
theorem law_restore_001 {l : Launch} {G : tg_G} {b L i : Nat} {nm : String} {xs : Nat → Int32} (hi : i + 7 ≤ L) (hL : L ≤ 3584) {Inv : SS → SS → tg_I → tg_I → Prop} (A B : Nat → Nat) (c m : SS) (b1 : Nat → Nat) (j1 : SS) {m2 : SS} (hp : (xs (nI i + (1 : Int32)).toNatClampNeg) = (0 : Int32)) (e7 : fX7_restore m (0 : Int32) = some ((-3), m2)) (hI2 : Inv c m2 (none) (some (b1, j1))) (kk : ∀ c2 m2 i0 i1, Inv c2 m2 i0 i1 → V l G ZL (EL b L xs) room_1 "TramGodLaw" nm code 4 ret 1115 [(0, .ref b), (1, .ref (A 0)), (2, .ref (B 0)), (3, .int (nI i))] [] (wL G A B c2 m2 i0 i1) (49 + ic i0 + ic i1) (375659 + isl i0 + isl i1)) : V l G ZL (EL b L xs) room_1 "TramGodLaw" nm code 4 ret 1069 [(0, .ref b), (1, .ref (A 0)), (2, .ref (B 0)), (3, .int (nI i))] [] (wL G A B c m (none) (some (b1, j1))) (49 + ic (none) + ic (some (b1, j1))) (375659 + isl (none) + isl (some (b1, j1))) := by
  refine V_aload_n eL_1069 1 rfl ?_
  refine V_aload_n eL_1070 0 rfl ?_
  refine V_iload_n eL_1071 3 rfl ?_
  refine V_iconst (v := (1 : Int32)) eL_1072 rfl ?_
  refine V_iadd eL_1073 ?_
  refine V_sld eL_1074 (lw_in 1 hi hL (by decide) rfl) ?_
  rw [hp]
  refine V_perm (wL_perm G A B c m (none) (some (b1, j1))) ?_
  refine V_callA (rest := []) (wr := wQ G A c ++ wM G B m) eL_1075 (kt_restore_001 l G A c b1 j1) tc_629 tw_626 tw_1 tw_627 tw_628 0 rfl rfl hdX6_restore rfl ⟨Nat.le_of_ble_eq_true rfl, Nat.le_of_ble_eq_true rfl⟩ ⟨Nat.le_of_ble_eq_true rfl, Nat.le_of_ble_eq_true rfl⟩ rfl (Nat.le_of_ble_eq_true rfl) rfl (fun v w1 hq => ?_)
  obtain ⟨rfl, rfl⟩ := hq
  refine V_perm ((wL_perm G A B c m (none) (some (b1, j1))).symm) ?_
  refine V_steq (st' := [.int (-3)]) rfl ?_
  refine V_aload_n eL_1078 2 rfl ?_
  refine V_aload_n eL_1079 0 rfl ?_
  refine V_iload_n eL_1080 3 rfl ?_
  refine V_iconst (v := (1 : Int32)) eL_1081 rfl ?_
  refine V_iadd eL_1082 ?_
  refine V_sld eL_1083 (lw_in 1 hi hL (by decide) rfl) ?_
  rw [hp]
  refine V_callBi (rest := [.int (-3)]) (wl := wC G A c ++ imC G A (none) (some (b1, j1))) (w1 := wM G B m2) eL_1084 (ctX7_restore l G B m (0 : Int32) e7) tc_1017 tw_1014 tw_8 tw_1015 tw_1016 0 rfl rfl hdX7_restore rfl ⟨Nat.le_of_ble_eq_true rfl, Nat.le_of_ble_eq_true rfl⟩ ⟨Nat.le_of_ble_eq_true rfl, Nat.le_of_ble_eq_true rfl⟩ rfl (Nat.le_of_ble_eq_true rfl) ?_
  refine V_icmp_eq (tgt := 1115) eL_1087 rfl (fun _ => ?_) (fun hb => absurd rfl hb)
  exact kk c m2 _ _ hI2
set_option maxRecDepth 20000 in
theorem law_restore_010 {l : Launch} {G : tg_G} {b L i : Nat} {nm : String} {xs : Nat → Int32} (hi : i + 7 ≤ L) (hL : L ≤ 3584) {Inv : SS → SS → tg_I → tg_I → Prop} (A B : Nat → Nat) (c m : SS) (b0 : Nat → Nat) (j0 : SS) {m2 : SS} (hp : (xs (nI i + (1 : Int32)).toNatClampNeg) = (0 : Int32)) (e7 : fX7_restore m (0 : Int32) = some (1, m2)) (hI2 : Inv (rsW c j0) m2 (some (b0, j0)) (none)) (kk : ∀ c2 m2 i0 i1, Inv c2 m2 i0 i1 → V l G ZL (EL b L xs) room_1 "TramGodLaw" nm code 4 ret 1115 [(0, .ref b), (1, .ref (A 0)), (2, .ref (B 0)), (3, .int (nI i))] [] (wL G A B c2 m2 i0 i1) (49 + ic i0 + ic i1) (375659 + isl i0 + isl i1)) : V l G ZL (EL b L xs) room_1 "TramGodLaw" nm code 4 ret 1069 [(0, .ref b), (1, .ref (A 0)), (2, .ref (B 0)), (3, .int (nI i))] [] (wL G A B c m (some (b0, j0)) (none)) (49 + ic (some (b0, j0)) + ic (none)) (375659 + isl (some (b0, j0)) + isl (none)) := by
  refine V_aload_n eL_1069 1 rfl ?_
  refine V_aload_n eL_1070 0 rfl ?_
  refine V_iload_n eL_1071 3 rfl ?_
  refine V_iconst (v := (1 : Int32)) eL_1072 rfl ?_
  refine V_iadd eL_1073 ?_
  refine V_sld eL_1074 (lw_in 1 hi hL (by decide) rfl) ?_
  rw [hp]
  refine V_perm (wL_perm G A B c m (some (b0, j0)) (none)) ?_
  refine V_callA (rest := []) (wr := wQ G A c ++ wM G B m) eL_1075 (kt_restore_010 l G A c b0 j0) tc_629 tw_626 tw_1 tw_627 tw_628 0 rfl rfl hdX6_restore rfl ⟨Nat.le_of_ble_eq_true rfl, Nat.le_of_ble_eq_true rfl⟩ ⟨Nat.le_of_ble_eq_true rfl, Nat.le_of_ble_eq_true rfl⟩ rfl (Nat.le_of_ble_eq_true rfl) rfl (fun v w1 hq => ?_)
  obtain ⟨rfl, rfl⟩ := hq
  refine V_perm ((wL_perm2 G A B c j0 m (some (b0, j0)) (none)).symm) ?_
  refine V_steq (st' := [.int 1]) rfl ?_
  refine V_aload_n eL_1078 2 rfl ?_
  refine V_aload_n eL_1079 0 rfl ?_
  refine V_iload_n eL_1080 3 rfl ?_
  refine V_iconst (v := (1 : Int32)) eL_1081 rfl ?_
  refine V_iadd eL_1082 ?_
  refine V_sld eL_1083 (lw_in 1 hi hL (by decide) rfl) ?_
  rw [hp]
  refine V_callBi (rest := [.int 1]) (wl := wC G A (rsW c j0) ++ imC G A (some (b0, j0)) (none)) (w1 := wM G B m2) eL_1084 (ctX7_restore l G B m (0 : Int32) e7) tc_1017 tw_1014 tw_8 tw_1015 tw_1016 0 rfl rfl hdX7_restore rfl ⟨Nat.le_of_ble_eq_true rfl, Nat.le_of_ble_eq_true rfl⟩ ⟨Nat.le_of_ble_eq_true rfl, Nat.le_of_ble_eq_true rfl⟩ rfl (Nat.le_of_ble_eq_true rfl) ?_
  refine V_icmp_eq (tgt := 1115) eL_1087 rfl (fun _ => ?_) (fun hb => absurd rfl hb)
  exact kk (rsW c j0) m2 _ _ hI2
set_option maxRecDepth 20000 in
theorem law_restore_011 {l : Launch} {G : tg_G} {b L i : Nat} {nm : String} {xs : Nat → Int32} (hi : i + 7 ≤ L) (hL : L ≤ 3584) {Inv : SS → SS → tg_I → tg_I → Prop} (A B : Nat → Nat) (c m : SS) (b0 : Nat → Nat) (j0 : SS) (b1 : Nat → Nat) (j1 : SS) {m2 : SS} (hp : (xs (nI i + (1 : Int32)).toNatClampNeg) = (0 : Int32)) (e7 : fX7_restore m (0 : Int32) = some (1, m2)) (hI2 : Inv (rsW c j0) m2 (some (b0, j0)) (some (b1, j1))) (kk : ∀ c2 m2 i0 i1, Inv c2 m2 i0 i1 → V l G ZL (EL b L xs) room_1 "TramGodLaw" nm code 4 ret 1115 [(0, .ref b), (1, .ref (A 0)), (2, .ref (B 0)), (3, .int (nI i))] [] (wL G A B c2 m2 i0 i1) (49 + ic i0 + ic i1) (375659 + isl i0 + isl i1)) : V l G ZL (EL b L xs) room_1 "TramGodLaw" nm code 4 ret 1069 [(0, .ref b), (1, .ref (A 0)), (2, .ref (B 0)), (3, .int (nI i))] [] (wL G A B c m (some (b0, j0)) (some (b1, j1))) (49 + ic (some (b0, j0)) + ic (some (b1, j1))) (375659 + isl (some (b0, j0)) + isl (some (b1, j1))) := by
  refine V_aload_n eL_1069 1 rfl ?_
  refine V_aload_n eL_1070 0 rfl ?_
  refine V_iload_n eL_1071 3 rfl ?_
  refine V_iconst (v := (1 : Int32)) eL_1072 rfl ?_
  refine V_iadd eL_1073 ?_
  refine V_sld eL_1074 (lw_in 1 hi hL (by decide) rfl) ?_
  rw [hp]
  refine V_perm (wL_perm G A B c m (some (b0, j0)) (some (b1, j1))) ?_
  refine V_callA (rest := []) (wr := wQ G A c ++ wM G B m) eL_1075 (kt_restore_011 l G A c b0 j0 b1 j1) tc_629 tw_626 tw_1 tw_627 tw_628 0 rfl rfl hdX6_restore rfl ⟨Nat.le_of_ble_eq_true rfl, Nat.le_of_ble_eq_true rfl⟩ ⟨Nat.le_of_ble_eq_true rfl, Nat.le_of_ble_eq_true rfl⟩ rfl (Nat.le_of_ble_eq_true rfl) rfl (fun v w1 hq => ?_)
  obtain ⟨rfl, rfl⟩ := hq
  refine V_perm ((wL_perm2 G A B c j0 m (some (b0, j0)) (some (b1, j1))).symm) ?_
  refine V_steq (st' := [.int 1]) rfl ?_
  refine V_aload_n eL_1078 2 rfl ?_
  refine V_aload_n eL_1079 0 rfl ?_
  refine V_iload_n eL_1080 3 rfl ?_
  refine V_iconst (v := (1 : Int32)) eL_1081 rfl ?_
  refine V_iadd eL_1082 ?_
  refine V_sld eL_1083 (lw_in 1 hi hL (by decide) rfl) ?_
  rw [hp]
  refine V_callBi (rest := [.int 1]) (wl := wC G A (rsW c j0) ++ imC G A (some (b0, j0)) (some (b1, j1))) (w1 := wM G B m2) eL_1084 (ctX7_restore l G B m (0 : Int32) e7) tc_1017 tw_1014 tw_8 tw_1015 tw_1016 0 rfl rfl hdX7_restore rfl ⟨Nat.le_of_ble_eq_true rfl, Nat.le_of_ble_eq_true rfl⟩ ⟨Nat.le_of_ble_eq_true rfl, Nat.le_of_ble_eq_true rfl⟩ rfl (Nat.le_of_ble_eq_true rfl) ?_
  refine V_icmp_eq (tgt := 1115) eL_1087 rfl (fun _ => ?_) (fun hb => absurd rfl hb)
  exact kk (rsW c j0) m2 _ _ hI2
set_option maxRecDepth 20000 in
theorem law_restore_100 {l : Launch} {G : tg_G} {b L i : Nat} {nm : String} {xs : Nat → Int32} (hi : i + 7 ≤ L) (hL : L ≤ 3584) {Inv : SS → SS → tg_I → tg_I → Prop} (A B : Nat → Nat) (c m : SS) {m2 : SS} (hp : (xs (nI i + (1 : Int32)).toNatClampNeg) = (1 : Int32)) (e7 : fX7_restore m (1 : Int32) = some ((-3), m2)) (hI2 : Inv c m2 (none) (none)) (kk : ∀ c2 m2 i0 i1, Inv c2 m2 i0 i1 → V l G ZL (EL b L xs) room_1 "TramGodLaw" nm code 4 ret 1115 [(0, .ref b), (1, .ref (A 0)), (2, .ref (B 0)), (3, .int (nI i))] [] (wL G A B c2 m2 i0 i1) (49 + ic i0 + ic i1) (375659 + isl i0 + isl i1)) : V l G ZL (EL b L xs) room_1 "TramGodLaw" nm code 4 ret 1069 [(0, .ref b), (1, .ref (A 0)), (2, .ref (B 0)), (3, .int (nI i))] [] (wL G A B c m (none) (none)) (49 + ic (none) + ic (none)) (375659 + isl (none) + isl (none)) := by
  refine V_aload_n eL_1069 1 rfl ?_
  refine V_aload_n eL_1070 0 rfl ?_
  refine V_iload_n eL_1071 3 rfl ?_
  refine V_iconst (v := (1 : Int32)) eL_1072 rfl ?_
  refine V_iadd eL_1073 ?_
  refine V_sld eL_1074 (lw_in 1 hi hL (by decide) rfl) ?_
  rw [hp]
  refine V_perm (wL_perm G A B c m (none) (none)) ?_
  refine V_callA (rest := []) (wr := wQ G A c ++ wM G B m) eL_1075 (kt_restore_100 l G A c) tc_629 tw_626 tw_1 tw_627 tw_628 0 rfl rfl hdX6_restore rfl ⟨Nat.le_of_ble_eq_true rfl, Nat.le_of_ble_eq_true rfl⟩ ⟨Nat.le_of_ble_eq_true rfl, Nat.le_of_ble_eq_true rfl⟩ rfl (Nat.le_of_ble_eq_true rfl) rfl (fun v w1 hq => ?_)
  obtain ⟨rfl, rfl⟩ := hq
  refine V_perm ((wL_perm G A B c m (none) (none)).symm) ?_
  refine V_steq (st' := [.int (-3)]) rfl ?_
  refine V_aload_n eL_1078 2 rfl ?_
  refine V_aload_n eL_1079 0 rfl ?_
  refine V_iload_n eL_1080 3 rfl ?_
  refine V_iconst (v := (1 : Int32)) eL_1081 rfl ?_
  refine V_iadd eL_1082 ?_
  refine V_sld eL_1083 (lw_in 1 hi hL (by decide) rfl) ?_
  rw [hp]
  refine V_callBi (rest := [.int (-3)]) (wl := wC G A c ++ imC G A (none) (none)) (w1 := wM G B m2) eL_1084 (ctX7_restore l G B m (1 : Int32) e7) tc_1017 tw_1014 tw_8 tw_1015 tw_1016 0 rfl rfl hdX7_restore rfl ⟨Nat.le_of_ble_eq_true rfl, Nat.le_of_ble_eq_true rfl⟩ ⟨Nat.le_of_ble_eq_true rfl, Nat.le_of_ble_eq_true rfl⟩ rfl (Nat.le_of_ble_eq_true rfl) ?_
  refine V_icmp_eq (tgt := 1115) eL_1087 rfl (fun _ => ?_) (fun hb => absurd rfl hb)
  exact kk c m2 _ _ hI2
set_option maxRecDepth 20000 in
theorem law_restore_101 {l : Launch} {G : tg_G} {b L i : Nat} {nm : String} {xs : Nat → Int32} (hi : i + 7 ≤ L) (hL : L ≤ 3584) {Inv : SS → SS → tg_I → tg_I → Prop} (A B : Nat → Nat) (c m : SS) (b1 : Nat → Nat) (j1 : SS) {m2 : SS} (hp : (xs (nI i + (1 : Int32)).toNatClampNeg) = (1 : Int32)) (e7 : fX7_restore m (1 : Int32) = some (1, m2)) (hI2 : Inv (rsW c j1) m2 (none) (some (b1, j1))) (kk : ∀ c2 m2 i0 i1, Inv c2 m2 i0 i1 → V l G ZL (EL b L xs) room_1 "TramGodLaw" nm code 4 ret 1115 [(0, .ref b), (1, .ref (A 0)), (2, .ref (B 0)), (3, .int (nI i))] [] (wL G A B c2 m2 i0 i1) (49 + ic i0 + ic i1) (375659 + isl i0 + isl i1)) : V l G ZL (EL b L xs) room_1 "TramGodLaw" nm code 4 ret 1069 [(0, .ref b), (1, .ref (A 0)), (2, .ref (B 0)), (3, .int (nI i))] [] (wL G A B c m (none) (some (b1, j1))) (49 + ic (none) + ic (some (b1, j1))) (375659 + isl (none) + isl (some (b1, j1))) := by
  refine V_aload_n eL_1069 1 rfl ?_
  refine V_aload_n eL_1070 0 rfl ?_
  refine V_iload_n eL_1071 3 rfl ?_
  refine V_iconst (v := (1 : Int32)) eL_1072 rfl ?_
  refine V_iadd eL_1073 ?_
  refine V_sld eL_1074 (lw_in 1 hi hL (by decide) rfl) ?_
  rw [hp]
  refine V_perm (wL_perm G A B c m (none) (some (b1, j1))) ?_
  refine V_callA (rest := []) (wr := wQ G A c ++ wM G B m) eL_1075 (kt_restore_101 l G A c b1 j1) tc_629 tw_626 tw_1 tw_627 tw_628 0 rfl rfl hdX6_restore rfl ⟨Nat.le_of_ble_eq_true rfl, Nat.le_of_ble_eq_true rfl⟩ ⟨Nat.le_of_ble_eq_true rfl, Nat.le_of_ble_eq_true rfl⟩ rfl (Nat.le_of_ble_eq_true rfl) rfl (fun v w1 hq => ?_)
  obtain ⟨rfl, rfl⟩ := hq
  refine V_perm ((wL_perm2 G A B c j1 m (none) (some (b1, j1))).symm) ?_
  refine V_steq (st' := [.int 1]) rfl ?_
  refine V_aload_n eL_1078 2 rfl ?_
  refine V_aload_n eL_1079 0 rfl ?_
  refine V_iload_n eL_1080 3 rfl ?_
  refine V_iconst (v := (1 : Int32)) eL_1081 rfl ?_
  refine V_iadd eL_1082 ?_
  refine V_sld eL_1083 (lw_in 1 hi hL (by decide) rfl) ?_
  rw [hp]
  refine V_callBi (rest := [.int 1]) (wl := wC G A (rsW c j1) ++ imC G A (none) (some (b1, j1))) (w1 := wM G B m2) eL_1084 (ctX7_restore l G B m (1 : Int32) e7) tc_1017 tw_1014 tw_8 tw_1015 tw_1016 0 rfl rfl hdX7_restore rfl ⟨Nat.le_of_ble_eq_true rfl, Nat.le_of_ble_eq_true rfl⟩ ⟨Nat.le_of_ble_eq_true rfl, Nat.le_of_ble_eq_true rfl⟩ rfl (Nat.le_of_ble_eq_true rfl) ?_
  refine V_icmp_eq (tgt := 1115) eL_1087 rfl (fun _ => ?_) (fun hb => absurd rfl hb)
  exact kk (rsW c j1) m2 _ _ hI2
set_option maxRecDepth 20000 in
theorem law_restore_110 {l : Launch} {G : tg_G} {b L i : Nat} {nm : String} {xs : Nat → Int32} (hi : i + 7 ≤ L) (hL : L ≤ 3584) {Inv : SS → SS → tg_I → tg_I → Prop} (A B : Nat → Nat) (c m : SS) (b0 : Nat → Nat) (j0 : SS) {m2 : SS} (hp : (xs (nI i + (1 : Int32)).toNatClampNeg) = (1 : Int32)) (e7 : fX7_restore m (1 : Int32) = some ((-3), m2)) (hI2 : Inv c m2 (some (b0, j0)) (none)) (kk : ∀ c2 m2 i0 i1, Inv c2 m2 i0 i1 → V l G ZL (EL b L xs) room_1 "TramGodLaw" nm code 4 ret 1115 [(0, .ref b), (1, .ref (A 0)), (2, .ref (B 0)), (3, .int (nI i))] [] (wL G A B c2 m2 i0 i1) (49 + ic i0 + ic i1) (375659 + isl i0 + isl i1)) : V l G ZL (EL b L xs) room_1 "TramGodLaw" nm code 4 ret 1069 [(0, .ref b), (1, .ref (A 0)), (2, .ref (B 0)), (3, .int (nI i))] [] (wL G A B c m (some (b0, j0)) (none)) (49 + ic (some (b0, j0)) + ic (none)) (375659 + isl (some (b0, j0)) + isl (none)) := by
  refine V_aload_n eL_1069 1 rfl ?_
  refine V_aload_n eL_1070 0 rfl ?_
  refine V_iload_n eL_1071 3 rfl ?_
  refine V_iconst (v := (1 : Int32)) eL_1072 rfl ?_
  refine V_iadd eL_1073 ?_
  refine V_sld eL_1074 (lw_in 1 hi hL (by decide) rfl) ?_
  rw [hp]
  refine V_perm (wL_perm G A B c m (some (b0, j0)) (none)) ?_
  refine V_callA (rest := []) (wr := wQ G A c ++ wM G B m) eL_1075 (kt_restore_110 l G A c b0 j0) tc_629 tw_626 tw_1 tw_627 tw_628 0 rfl rfl hdX6_restore rfl ⟨Nat.le_of_ble_eq_true rfl, Nat.le_of_ble_eq_true rfl⟩ ⟨Nat.le_of_ble_eq_true rfl, Nat.le_of_ble_eq_true rfl⟩ rfl (Nat.le_of_ble_eq_true rfl) rfl (fun v w1 hq => ?_)
  obtain ⟨rfl, rfl⟩ := hq
  refine V_perm ((wL_perm G A B c m (some (b0, j0)) (none)).symm) ?_
  refine V_steq (st' := [.int (-3)]) rfl ?_
  refine V_aload_n eL_1078 2 rfl ?_
  refine V_aload_n eL_1079 0 rfl ?_
  refine V_iload_n eL_1080 3 rfl ?_
  refine V_iconst (v := (1 : Int32)) eL_1081 rfl ?_
  refine V_iadd eL_1082 ?_
  refine V_sld eL_1083 (lw_in 1 hi hL (by decide) rfl) ?_
  rw [hp]
  refine V_callBi (rest := [.int (-3)]) (wl := wC G A c ++ imC G A (some (b0, j0)) (none)) (w1 := wM G B m2) eL_1084 (ctX7_restore l G B m (1 : Int32) e7) tc_1017 tw_1014 tw_8 tw_1015 tw_1016 0 rfl rfl hdX7_restore rfl ⟨Nat.le_of_ble_eq_true rfl, Nat.le_of_ble_eq_true rfl⟩ ⟨Nat.le_of_ble_eq_true rfl, Nat.le_of_ble_eq_true rfl⟩ rfl (Nat.le_of_ble_eq_true rfl) ?_
  refine V_icmp_eq (tgt := 1115) eL_1087 rfl (fun _ => ?_) (fun hb => absurd rfl hb)
  exact kk c m2 _ _ hI2
set_option maxRecDepth 20000 in
theorem law_restore_111 {l : Launch} {G : tg_G} {b L i : Nat} {nm : String} {xs : Nat → Int32} (hi : i + 7 ≤ L) (hL : L ≤ 3584) {Inv : SS → SS → tg_I → tg_I → Prop} (A B : Nat → Nat) (c m : SS) (b0 : Nat → Nat) (j0 : SS) (b1 : Nat → Nat) (j1 : SS) {m2 : SS} (hp : (xs (nI i + (1 : Int32)).toNatClampNeg) = (1 : Int32)) (e7 : fX7_restore m (1 : Int32) = some (1, m2)) (hI2 : Inv (rsW c j1) m2 (some (b0, j0)) (some (b1, j1))) (kk : ∀ c2 m2 i0 i1, Inv c2 m2 i0 i1 → V l G ZL (EL b L xs) room_1 "TramGodLaw" nm code 4 ret 1115 [(0, .ref b), (1, .ref (A 0)), (2, .ref (B 0)), (3, .int (nI i))] [] (wL G A B c2 m2 i0 i1) (49 + ic i0 + ic i1) (375659 + isl i0 + isl i1)) : V l G ZL (EL b L xs) room_1 "TramGodLaw" nm code 4 ret 1069 [(0, .ref b), (1, .ref (A 0)), (2, .ref (B 0)), (3, .int (nI i))] [] (wL G A B c m (some (b0, j0)) (some (b1, j1))) (49 + ic (some (b0, j0)) + ic (some (b1, j1))) (375659 + isl (some (b0, j0)) + isl (some (b1, j1))) := by
  refine V_aload_n eL_1069 1 rfl ?_
  refine V_aload_n eL_1070 0 rfl ?_
  refine V_iload_n eL_1071 3 rfl ?_
  refine V_iconst (v := (1 : Int32)) eL_1072 rfl ?_
  refine V_iadd eL_1073 ?_
  refine V_sld eL_1074 (lw_in 1 hi hL (by decide) rfl) ?_
  rw [hp]
  refine V_perm (wL_perm G A B c m (some (b0, j0)) (some (b1, j1))) ?_
  refine V_callA (rest := []) (wr := wQ G A c ++ wM G B m) eL_1075 (kt_restore_111 l G A c b0 j0 b1 j1) tc_629 tw_626 tw_1 tw_627 tw_628 0 rfl rfl hdX6_restore rfl ⟨Nat.le_of_ble_eq_true rfl, Nat.le_of_ble_eq_true rfl⟩ ⟨Nat.le_of_ble_eq_true rfl, Nat.le_of_ble_eq_true rfl⟩ rfl (Nat.le_of_ble_eq_true rfl) rfl (fun v w1 hq => ?_)
  obtain ⟨rfl, rfl⟩ := hq
  refine V_perm ((wL_perm2 G A B c j1 m (some (b0, j0)) (some (b1, j1))).symm) ?_
  refine V_steq (st' := [.int 1]) rfl ?_
  refine V_aload_n eL_1078 2 rfl ?_
  refine V_aload_n eL_1079 0 rfl ?_
  refine V_iload_n eL_1080 3 rfl ?_
  refine V_iconst (v := (1 : Int32)) eL_1081 rfl ?_
  refine V_iadd eL_1082 ?_
  refine V_sld eL_1083 (lw_in 1 hi hL (by decide) rfl) ?_
  rw [hp]
  refine V_callBi (rest := [.int 1]) (wl := wC G A (rsW c j1) ++ imC G A (some (b0, j0)) (some (b1, j1))) (w1 := wM G B m2) eL_1084 (ctX7_restore l G B m (1 : Int32) e7) tc_1017 tw_1014 tw_8 tw_1015 tw_1016 0 rfl rfl hdX7_restore rfl ⟨Nat.le_of_ble_eq_true rfl, Nat.le_of_ble_eq_true rfl⟩ ⟨Nat.le_of_ble_eq_true rfl, Nat.le_of_ble_eq_true rfl⟩ rfl (Nat.le_of_ble_eq_true rfl) ?_
  refine V_icmp_eq (tgt := 1115) eL_1087 rfl (fun _ => ?_) (fun hb => absurd rfl hb)
  exact kk (rsW c j1) m2 _ _ hI2
theorem law_restore {l : Launch} {G : tg_G} {b L i : Nat} {nm : String} {xs : Nat → Int32} (hi : i + 7 ≤ L) (hL : L ≤ 3584) {Inv : SS → SS → tg_I → tg_I → Prop} (A B : Nat → Nat) (c m : SS) (i0 i1 : tg_I) (ok : OK_restore Inv) (hI : Inv c m i0 i1) (kk : ∀ c2 m2 i0 i1, Inv c2 m2 i0 i1 → V l G ZL (EL b L xs) room_1 "TramGodLaw" nm code 4 ret 1115 [(0, .ref b), (1, .ref (A 0)), (2, .ref (B 0)), (3, .int (nI i))] [] (wL G A B c2 m2 i0 i1) (49 + ic i0 + ic i1) (375659 + isl i0 + isl i1)) : V l G ZL (EL b L xs) room_1 "TramGodLaw" nm code 4 ret 1069 [(0, .ref b), (1, .ref (A 0)), (2, .ref (B 0)), (3, .int (nI i))] [] (wL G A B c m i0 i1) (49 + ic i0 + ic i1) (375659 + isl i0 + isl i1) := by
  obtain ⟨ho, ⟨ma, ea, ha⟩, mb, eb, hb⟩ := ok c m i0 i1 hI
  by_cases hw : fX6_within (xs (nI i + (1 : Int32)).toNatClampNeg) 0 1 = 0
  · obtain ⟨m2, e7, h2⟩ := ho _ hw
    exact law_restore_out hi hL A B c m i0 i1 hw e7 h2 kk
  · rcases within01 hw with hp | hp
    · rcases i0 with _ | ⟨b0, j0⟩ <;> rcases i1 with _ | ⟨b1, j1⟩
      · exact law_restore_000 hi hL A B c m hp ea ha kk
      · exact law_restore_001 hi hL A B c m b1 j1 hp ea ha kk
      · exact law_restore_010 hi hL A B c m b0 j0 hp ea ha kk
      · exact law_restore_011 hi hL A B c m b0 j0 b1 j1 hp ea ha kk
    · rcases i0 with _ | ⟨b0, j0⟩ <;> rcases i1 with _ | ⟨b1, j1⟩
      · exact law_restore_100 hi hL A B c m hp eb hb kk
      · exact law_restore_101 hi hL A B c m b1 j1 hp eb hb kk
      · exact law_restore_110 hi hL A B c m b0 j0 hp eb hb kk
      · exact law_restore_111 hi hL A B c m b0 j0 b1 j1 hp eb hb kk
theorem lw_sub7 {L i : Nat} (hL : L ≤ 3584) (hi : i ≤ 4000) (h : ¬ (Int32.ofNat L - (7 : Int32)) < nI i) : i + 7 ≤ L := by
  have h1 : ¬ (Int32.ofNat L - (7 : Int32)).toInt < (nI i).toInt := fun q => h (Int32.lt_iff_toInt_lt.mpr q)
  have e2 : (nI i).toInt = (i : Int) := nI_toInt (by omega)
  have e3 : (nI L).toInt = (L : Int) := nI_toInt (by omega)
  have e4 : (Int32.ofNat L - (7 : Int32)).toInt = (L : Int) - 7 := by
    have e5 : (7 : Int32).toInt = 7 := rfl
    show (nI L - 7).toInt = _
    rw [Int32.toInt_sub, e3, e5]
    exact Int.bmod_eq_of_le (by omega) (by omega)
  rw [e4, e2] at h1
  omega
theorem lw_k {x : Int32} (h : ¬ (x.toInt < 0 ∨ 30 < x.toInt)) : ∃ k : Nat, k ≤ 30 ∧ x = nI k := by
  refine ⟨x.toInt.toNat, by omega, ?_⟩
  apply Int32.toInt_inj.mp
  rw [nI_toInt (by omega)]
  omega
set_option maxRecDepth 20000 in
set_option maxHeartbeats 1000000 in
theorem law_loop {l : Launch} {G : tg_G} {nm : String} {b L : Nat} {xs : Nat → Int32} (hL : L ≤ 3584) {Inv : SS → SS → tg_I → tg_I → Prop} (ok_say : OK_say Inv) (ok_wipe : OK_wipe Inv) (ok_fault : OK_fault Inv) (ok_line : OK_line Inv) (ok_close : OK_close Inv) (ok_person : OK_person Inv) (ok_leave : OK_leave Inv) (ok_nights : OK_nights Inv) (ok_set : OK_set Inv) (ok_judge : OK_judge Inv) (ok_riders : OK_riders Inv) (ok_good : OK_good Inv) (ok_leaves : OK_leaves Inv) (ok_vain : OK_vain Inv) (ok_best : OK_best Inv) (ok_worth : OK_worth Inv) (ok_meant : OK_meant Inv) (ok_bars : OK_bars Inv) (ok_fund : OK_fund Inv) (ok_rival : OK_rival Inv) (ok_closing : OK_closing Inv) (ok_seen : OK_seen Inv) (ok_forget : OK_forget Inv) (ok_held : OK_held Inv) (ok_runs : OK_runs Inv) (ok_mean : OK_mean Inv) (ok_waits : OK_waits Inv) (ok_year : OK_year Inv) (ok_image : OK_image Inv) (ok_restore : OK_restore Inv) (ok_told : OK_told Inv) : ∀ (n i : Nat) (A B : Nat → Nat) (c m : SS) (i0 i1 : tg_I), Inv c m i0 i1 → i ≤ 4000 → L < i + 7 * n → V l G ZL (EL b L xs) room_1 "TramGodLaw" nm code 4 ret 18 [(0, .ref b), (1, .ref (A 0)), (2, .ref (B 0)), (3, .int (nI i))] [] (wL G A B c m i0 i1) (49 + ic i0 + ic i1) (375659 + isl i0 + isl i1) := by
  intro n
  induction n with
  | zero =>
    intro i A B c m i0 i1 hI hi hn
    refine V_iload_n eL_18 3 rfl ?_
    refine V_aload_n eL_19 0 rfl ?_
    refine V_slen eL_20 ?_
    refine V_bipush (v := (7 : Int32)) eL_21 rfl ?_
    refine V_isub eL_23 ?_
    refine V_icmp_gt (tgt := 1121) eL_24 rfl (fun _ => ?_) (fun hb => absurd (lw_sub7 hL hi hb) (by omega))
    refine V_iconst (v := (1 : Int32)) eL_1121 rfl ?_
    exact V_lawend eL_1122 (ic_le2 i0 i1) (isl_le2 i0 i1)
  | succ n ih =>
    intro i A B c m i0 i1 hI hi hn
    refine V_iload_n eL_18 3 rfl ?_
    refine V_aload_n eL_19 0 rfl ?_
    refine V_slen eL_20 ?_
    refine V_bipush (v := (7 : Int32)) eL_21 rfl ?_
    refine V_isub eL_23 ?_
    refine V_icmp_gt (tgt := 1121) eL_24 rfl (fun _ => ?_) (fun hb => ?_)
    · refine V_iconst (v := (1 : Int32)) eL_1121 rfl ?_
      exact V_lawend eL_1122 (ic_le2 i0 i1) (isl_le2 i0 i1)
    have hi7 := lw_sub7 hL hi hb
    have kk : ∀ c2 m2 i0 i1, Inv c2 m2 i0 i1 → V l G ZL (EL b L xs) room_1 "TramGodLaw" nm code 4 ret 1115 [(0, .ref b), (1, .ref (A 0)), (2, .ref (B 0)), (3, .int (nI i))] [] (wL G A B c2 m2 i0 i1) (49 + ic i0 + ic i1) (375659 + isl i0 + isl i1) := by
      intro c2 m2 i0 i1 hI2
      refine V_iinc (v := nI (i + 7)) (lv' := [(3, .int (nI (i + 7))), (0, .ref b), (1, .ref (A 0)), (2, .ref (B 0))]) eL_1115 3 rfl (nI_add i 7) (Nat.le_of_ble_eq_true rfl) rfl ?_
      refine V_goto (tgt := 18) eL_1118 rfl ?_
      refine V_lv (lv' := [(0, .ref b), (1, .ref (A 0)), (2, .ref (B 0)), (3, .int (nI (i + 7)))]) [1, 2, 3, 0] rfl ?_
      exact ih (i + 7) A B c2 m2 i0 i1 hI2 (by omega) (by omega)
    refine V_aload_n eL_27 0 rfl ?_
    refine V_iload_n eL_28 3 rfl ?_
    refine V_sld eL_29 (vp_in_nI (by omega) (by omega)) ?_
    refine V_bipush (v := (31 : Int32)) eL_30 rfl ?_
    refine V_iand eL_32 ?_
    generalize hx : (xs (nI i).toNatClampNeg &&& (31 : Int32)) = x
    by_cases hs : x.toInt < 0 ∨ 30 < x.toInt
    · refine V_tout (tgt := 1115) eL_33 hs rfl ?_
      exact kk c m i0 i1 hI
    obtain ⟨k, hk, rfl⟩ := lw_k hs
    have hkk : k = 0 ∨ k = 1 ∨ k = 2 ∨ k = 3 ∨ k = 4 ∨ k = 5 ∨ k = 6 ∨ k = 7 ∨ k = 8 ∨ k = 9 ∨ k = 10 ∨ k = 11 ∨ k = 12 ∨ k = 13 ∨ k = 14 ∨ k = 15 ∨ k = 16 ∨ k = 17 ∨ k = 18 ∨ k = 19 ∨ k = 20 ∨ k = 21 ∨ k = 22 ∨ k = 23 ∨ k = 24 ∨ k = 25 ∨ k = 26 ∨ k = 27 ∨ k = 28 ∨ k = 29 ∨ k = 30 := by omega
    rcases hkk with rfl | rfl | rfl | rfl | rfl | rfl | rfl | rfl | rfl | rfl | rfl | rfl | rfl | rfl | rfl | rfl | rfl | rfl | rfl | rfl | rfl | rfl | rfl | rfl | rfl | rfl | rfl | rfl | rfl | rfl | rfl
    · refine V_tin (tgt := 172) (139) eL_33 (by decide) (by decide) (by decide) rfl ?_
      exact law_say hi7 hL ok_say A B c m i0 i1 hI (fun c2 m2 h => kk c2 m2 i0 i1 h)
    · refine V_tin (tgt := 195) (162) eL_33 (by decide) (by decide) (by decide) rfl ?_
      exact law_wipe hi7 hL ok_wipe A B c m i0 i1 hI (fun c2 m2 h => kk c2 m2 i0 i1 h)
    · refine V_tin (tgt := 208) (175) eL_33 (by decide) (by decide) (by decide) rfl ?_
      exact law_fault hi7 hL ok_fault A B c m i0 i1 hI (fun c2 m2 h => kk c2 m2 i0 i1 h)
    · refine V_tin (tgt := 231) (198) eL_33 (by decide) (by decide) (by decide) rfl ?_
      exact law_line hi7 hL ok_line A B c m i0 i1 hI (fun c2 m2 h => kk c2 m2 i0 i1 h)
    · refine V_tin (tgt := 244) (211) eL_33 (by decide) (by decide) (by decide) rfl ?_
      exact law_close hi7 hL ok_close A B c m i0 i1 hI (fun c2 m2 h => kk c2 m2 i0 i1 h)
    · refine V_tin (tgt := 293) (260) eL_33 (by decide) (by decide) (by decide) rfl ?_
      exact law_person hi7 hL ok_person A B c m i0 i1 hI (fun c2 m2 h => kk c2 m2 i0 i1 h)
    · refine V_tin (tgt := 368) (335) eL_33 (by decide) (by decide) (by decide) rfl ?_
      exact law_leave hi7 hL ok_leave A B c m i0 i1 hI (fun c2 m2 h => kk c2 m2 i0 i1 h)
    · refine V_tin (tgt := 391) (358) eL_33 (by decide) (by decide) (by decide) rfl ?_
      exact law_nights hi7 hL ok_nights A B c m i0 i1 hI (fun c2 m2 h => kk c2 m2 i0 i1 h)
    · refine V_tin (tgt := 424) (391) eL_33 (by decide) (by decide) (by decide) rfl ?_
      exact law_set hi7 hL ok_set A B c m i0 i1 hI (fun c2 m2 h => kk c2 m2 i0 i1 h)
    · refine V_tin (tgt := 457) (424) eL_33 (by decide) (by decide) (by decide) rfl ?_
      exact law_judge hi7 hL ok_judge A B c m i0 i1 hI (fun c2 m2 h => kk c2 m2 i0 i1 h)
    · refine V_tin (tgt := 480) (447) eL_33 (by decide) (by decide) (by decide) rfl ?_
      exact law_riders hi7 hL ok_riders A B c m i0 i1 hI (fun c2 m2 h => kk c2 m2 i0 i1 h)
    · refine V_tin (tgt := 493) (460) eL_33 (by decide) (by decide) (by decide) rfl ?_
      exact law_good hi7 hL ok_good A B c m i0 i1 hI (fun c2 m2 h => kk c2 m2 i0 i1 h)
    · refine V_tin (tgt := 516) (483) eL_33 (by decide) (by decide) (by decide) rfl ?_
      exact law_leaves hi7 hL ok_leaves A B c m i0 i1 hI (fun c2 m2 h => kk c2 m2 i0 i1 h)
    · refine V_tin (tgt := 539) (506) eL_33 (by decide) (by decide) (by decide) rfl ?_
      exact law_vain hi7 hL ok_vain A B c m i0 i1 hI (fun c2 m2 h => kk c2 m2 i0 i1 h)
    · refine V_tin (tgt := 552) (519) eL_33 (by decide) (by decide) (by decide) rfl ?_
      exact law_best hi7 hL ok_best A B c m i0 i1 hI (fun c2 m2 h => kk c2 m2 i0 i1 h)
    · refine V_tin (tgt := 575) (542) eL_33 (by decide) (by decide) (by decide) rfl ?_
      exact law_worth hi7 hL ok_worth A B c m i0 i1 hI (fun c2 m2 h => kk c2 m2 i0 i1 h)
    · refine V_tin (tgt := 588) (555) eL_33 (by decide) (by decide) (by decide) rfl ?_
      exact law_meant hi7 hL ok_meant A B c m i0 i1 hI (fun c2 m2 h => kk c2 m2 i0 i1 h)
    · refine V_tin (tgt := 631) (598) eL_33 (by decide) (by decide) (by decide) rfl ?_
      exact law_bars hi7 hL ok_bars A B c m i0 i1 hI (fun c2 m2 h => kk c2 m2 i0 i1 h)
    · refine V_tin (tgt := 664) (631) eL_33 (by decide) (by decide) (by decide) rfl ?_
      exact law_fund hi7 hL ok_fund A B c m i0 i1 hI (fun c2 m2 h => kk c2 m2 i0 i1 h)
    · refine V_tin (tgt := 707) (674) eL_33 (by decide) (by decide) (by decide) rfl ?_
      exact law_rival hi7 hL ok_rival A B c m i0 i1 hI (fun c2 m2 h => kk c2 m2 i0 i1 h)
    · refine V_tin (tgt := 730) (697) eL_33 (by decide) (by decide) (by decide) rfl ?_
      exact law_closing hi7 hL ok_closing A B c m i0 i1 hI (fun c2 m2 h => kk c2 m2 i0 i1 h)
    · refine V_tin (tgt := 763) (730) eL_33 (by decide) (by decide) (by decide) rfl ?_
      exact law_seen hi7 hL ok_seen A B c m i0 i1 hI (fun c2 m2 h => kk c2 m2 i0 i1 h)
    · refine V_tin (tgt := 796) (763) eL_33 (by decide) (by decide) (by decide) rfl ?_
      exact law_forget hi7 hL ok_forget A B c m i0 i1 hI (fun c2 m2 h => kk c2 m2 i0 i1 h)
    · refine V_tin (tgt := 809) (776) eL_33 (by decide) (by decide) (by decide) rfl ?_
      exact law_held hi7 hL ok_held A B c m i0 i1 hI (fun c2 m2 h => kk c2 m2 i0 i1 h)
    · refine V_tin (tgt := 842) (809) eL_33 (by decide) (by decide) (by decide) rfl ?_
      exact law_runs hi7 hL ok_runs A B c m i0 i1 hI (fun c2 m2 h => kk c2 m2 i0 i1 h)
    · refine V_tin (tgt := 896) (863) eL_33 (by decide) (by decide) (by decide) rfl ?_
      exact law_mean hi7 hL ok_mean A B c m i0 i1 hI (fun c2 m2 h => kk c2 m2 i0 i1 h)
    · refine V_tin (tgt := 940) (907) eL_33 (by decide) (by decide) (by decide) rfl ?_
      exact law_waits hi7 hL ok_waits A B c m i0 i1 hI (fun c2 m2 h => kk c2 m2 i0 i1 h)
    · refine V_tin (tgt := 1003) (970) eL_33 (by decide) (by decide) (by decide) rfl ?_
      exact law_year hi7 hL ok_year A B c m i0 i1 hI (fun c2 m2 h => kk c2 m2 i0 i1 h)
    · refine V_tin (tgt := 1046) (1013) eL_33 (by decide) (by decide) (by decide) rfl ?_
      exact law_image hi7 hL A B c m i0 i1 ok_image hI kk
    · refine V_tin (tgt := 1069) (1036) eL_33 (by decide) (by decide) (by decide) rfl ?_
      exact law_restore hi7 hL A B c m i0 i1 ok_restore hI kk
    · refine V_tin (tgt := 1092) (1059) eL_33 (by decide) (by decide) (by decide) rfl ?_
      exact law_told hi7 hL ok_told A B c m i0 i1 hI (fun c2 m2 h => kk c2 m2 i0 i1 h)
