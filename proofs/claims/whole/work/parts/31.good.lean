/-! the good of it -/
def gdS (c : SS) (cnt rid : Nat → Bool) : Int32 := lp 8 (fun p s => s + (if cnt p then (if rid p then c.2 4 p else c.2 5 p) else 0)) 0
def otS (c : SS) (rid : Nat → Bool) : Int32 := lp 8 (fun p s => s + (if rid p then c.2 6 p else 0)) 0
theorem gdS_congr {c : SS} {f g u v : Nat → Bool} (h1 : ∀ p, p < 8 → f p = g p) (h2 : ∀ p, p < 8 → f p = true → u p = v p) : gdS c f u = gdS c g v := by
  unfold gdS
  refine lp_congr (fun i x hi => ?_)
  rw [← h1 i hi]
  cases hf : f i with
  | true => rw [h2 i hi hf]
  | false => rfl
theorem otS_congr {c : SS} {u v : Nat → Bool} (h2 : ∀ p, p < 8 → u p = v p) : otS c u = otS c v := by
  unfold otS
  exact lp_congr (fun i x hi => by rw [h2 i hi])
theorem bt_dec (x : Int32) (p : Nat) (hp : p < 32) : (((x >>> (nI p &&& 31)) &&& 1) = 1) = (bt x p = true) := propext (tb1 x hp)
theorem among_c {s : SS} (come rid : Int32) : fX5_goodAmong s come rid = some (gdS s (bt come) (bt rid)) := by
  unfold fX5_goodAmong gdS
  refine for_up0 (fun n i b => fX5_goodAmong_L5 s come rid n b (nI i)) 8 (fun p b => b + (if bt come p then (if bt rid p then s.2 4 p else s.2 5 p) else 0)) some ?_ ?_ fu 0 (fu_big (by omega))
  · intro n i b hi
    show fX5_goodAmong_L5 s come rid (n + 1) b (nI i) = fX5_goodAmong_L5 s come rid n _ (nI (i + 1))
    rw [fX5_goodAmong_L5, if_neg (n8 hi), inc_n]
    simp only [jn_e, bt_dec _ i (show i < 32 by omega), ald_n hi (show 8 < 2 ^ 31 by decide)]
    cases bt come i with
    | true => cases bt rid i <;> rfl
    | false => simp only [Bool.false_eq_true, if_false, Int32.add_zero]
  · intro n b
    show fX5_goodAmong_L5 s come rid (n + 1) b (nI 8) = some b
    rw [fX5_goodAmong_L5, if_pos (show (8 : Int32) ≤ nI 8 by decide)]
theorem good_cs {c s : SS} (h5 : s.1 5 = c.1 5) (h4 : s.2 4 = c.2 4) (h6 : s.2 5 = c.2 5) (rid : Int32) : fX5_goodOf s rid = some (gdS c (bt (c.1 5)) (bt rid)) := by
  unfold fX5_goodOf
  rw [among_c, h5]
  unfold gdS
  rw [h4, h6]
  rfl
theorem others_cs {c s : SS} (h6 : s.2 6 = c.2 6) (rid : Int32) : fX5_othersOf s rid = some (otS c (bt rid)) := by
  unfold fX5_othersOf otS
  refine for_up0 (fun n i b => fX5_othersOf_L4 s rid n b (nI i)) 8 (fun p b => b + (if bt rid p then c.2 6 p else 0)) some ?_ ?_ fu 0 (fu_big (by omega))
  · intro n i b hi
    show fX5_othersOf_L4 s rid (n + 1) b (nI i) = fX5_othersOf_L4 s rid n _ (nI (i + 1))
    rw [fX5_othersOf_L4, if_neg (n8 hi), inc_n]
    simp only [jn_e, bt_dec _ i (show i < 32 by omega), ald_n hi (show 8 < 2 ^ 31 by decide), h6]
    cases bt rid i with
    | true => rfl
    | false => simp only [Bool.false_eq_true, if_false, Int32.add_zero]
  · intro n b
    show fX5_othersOf_L4 s rid (n + 1) b (nI 8) = some b
    rw [fX5_othersOf_L4, if_pos (show (8 : Int32) ≤ nI 8 by decide)]
theorem good_ms {c s : SS} (h3 : s.1 3 = c.1 5) (hp : ∀ p, p < 8 → pR c s p) (rid cnt : Int32) : fX7_goodOf s rid cnt = some (gdS c (fun p => bt (c.1 5) p && bt cnt p) (bt rid)) := by
  unfold fX7_goodOf gdS
  refine for_up0 (fun n i b => fX7_goodOf_L5 s rid cnt n b (nI i)) 8 (fun p b => b + (if (bt (c.1 5) p && bt cnt p) then (if bt rid p then c.2 4 p else c.2 5 p) else 0)) some ?_ ?_ fu 0 (fu_big (by omega))
  · intro n i b hi
    show fX7_goodOf_L5 s rid cnt (n + 1) b (nI i) = fX7_goodOf_L5 s rid cnt n _ (nI (i + 1))
    obtain ⟨-, -, g3, g4, -⟩ := hp i hi
    have ht := there_m h3 hi
    rw [fX7_goodOf_L5, if_neg (n8 hi), inc_n]
    simp only [jn_e, bt_dec _ i (show i < 32 by omega), ald_n hi (show 8 < 2 ^ 31 by decide), g3, g4, ht]
    cases bt (c.1 5) i with
    | false => rfl
    | true =>
      cases bt cnt i with
      | false => rfl
      | true => cases bt rid i <;> rfl
  · intro n b
    show fX7_goodOf_L5 s rid cnt (n + 1) b (nI 8) = some b
    rw [fX7_goodOf_L5, if_pos (show (8 : Int32) ≤ nI 8 by decide)]
theorem others_ms {c s : SS} (hp : ∀ p, p < 8 → pR c s p) (rid : Int32) : fX7_othersOf s rid = some (otS c (bt rid)) := by
  unfold fX7_othersOf otS
  refine for_up0 (fun n i b => fX7_othersOf_L4 s rid n b (nI i)) 8 (fun p b => b + (if bt rid p then c.2 6 p else 0)) some ?_ ?_ fu 0 (fu_big (by omega))
  · intro n i b hi
    show fX7_othersOf_L4 s rid (n + 1) b (nI i) = fX7_othersOf_L4 s rid n _ (nI (i + 1))
    obtain ⟨-, -, -, -, g5, -⟩ := hp i hi
    rw [fX7_othersOf_L4, if_neg (n8 hi), inc_n]
    simp only [jn_e, bt_dec _ i (show i < 32 by omega), ald_n hi (show 8 < 2 ^ 31 by decide), g5]
    cases bt rid i <;> rfl
  · intro n b
    show fX7_othersOf_L4 s rid (n + 1) b (nI 8) = some b
    rw [fX7_othersOf_L4, if_pos (show (8 : Int32) ≤ nI 8 by decide)]
/-- counting with 255 is counting all -/
theorem gd_255 (c : SS) (u : Nat → Bool) : gdS c (fun p => bt (c.1 5) p && bt 255 p) u = gdS c (bt (c.1 5)) u := by
  refine gdS_congr (fun p hp => ?_) (fun p hp _ => rfl)
  rw [b_255]; simp [hp]
theorem gd_bs (c : SS) (f g : Nat → Bool) : gdS c f (bt (bs g)) = gdS c f g := by
  refine gdS_congr (fun p hp => rfl) (fun p hp _ => ?_)
  rw [bs_bt]; simp [hp]
theorem ot_bs (c : SS) (g : Nat → Bool) : otS c (bt (bs g)) = otS c g := by
  refine otS_congr (fun p hp => ?_)
  rw [bs_bt]; simp [hp]
