theorem mt_le {x r w : Int32} (hx : 0 ≤ x.toInt ∧ x.toInt ≤ 10) (hr : gd9 r) (hw : gd9 w) : -90 ≤ (x * r + (10 - x) * w).toInt ∧ (x * r + (10 - x) * w).toInt ≤ 90 := by
  obtain ⟨k, k1, rfl, k3⟩ := nI_back hx.1
  have hk : k ≤ 10 := by omega
  unfold gd9 at hr hw
  have ek : (nI k).toInt = (k : Int) := nI_ti (by omega)
  have e10 : ((10 : Int32) - nI k).toInt = 10 - (k : Int) := by
    rw [sub_ti (by rw [ek]; show _ ≤ (10 : Int) - _; omega) (by rw [ek]; show (10 : Int) - _ < _; omega), ek]; rfl
  have hc : k = 0 ∨ k = 1 ∨ k = 2 ∨ k = 3 ∨ k = 4 ∨ k = 5 ∨ k = 6 ∨ k = 7 ∨ k = 8 ∨ k = 9 ∨ k = 10 := by omega
  have b1 : -90 ≤ (k : Int) * r.toInt ∧ (k : Int) * r.toInt ≤ 90 := by
    rcases hc with rfl | rfl | rfl | rfl | rfl | rfl | rfl | rfl | rfl | rfl | rfl <;> omega
  have b2 : -90 ≤ (10 - (k : Int)) * w.toInt ∧ (10 - (k : Int)) * w.toInt ≤ 90 := by
    rcases hc with rfl | rfl | rfl | rfl | rfl | rfl | rfl | rfl | rfl | rfl | rfl <;> omega
  have b3 : -90 ≤ (k : Int) * r.toInt + (10 - (k : Int)) * w.toInt ∧ (k : Int) * r.toInt + (10 - (k : Int)) * w.toInt ≤ 90 := by
    rcases hc with rfl | rfl | rfl | rfl | rfl | rfl | rfl | rfl | rfl | rfl | rfl <;> omega
  have m1 : (nI k * r).toInt = (k : Int) * r.toInt := by rw [mul_ti (by rw [ek]; omega) (by rw [ek]; omega), ek]
  have m2 : ((10 - nI k) * w).toInt = (10 - (k : Int)) * w.toInt := by rw [mul_ti (by rw [e10]; omega) (by rw [e10]; omega), e10]
  rw [add_ti (by rw [m1, m2]; omega) (by rw [m1, m2]; omega), m1, m2]
  exact b3
def mtm (c : SS) (later : Nat) (t : Int32) (p : Nat) : Int32 := tnS c (dly (bt (c.1 2)) (hd c)) p later t * c.2 4 p + (10 - tnS c (dly (bt (c.1 2)) (hd c)) p later t) * c.2 5 p
def mnS (c : SS) (later : Nat) (t : Int32) (n : Nat) : Int32 := lp n (fun p s => if bt (c.1 5) p then s + mtm c later t p else s) 0
theorem mn_le {c : SS} (hW : WOK c) (later : Nat) {t : Int32} (ht : 0 ≤ t.toInt ∧ t.toInt ≤ 10) : ∀ n : Nat, n ≤ 8 → -90 * (n : Int) ≤ (mnS c later t n).toInt ∧ (mnS c later t n).toInt ≤ 90 * (n : Int) := by
  intro n
  induction n with
  | zero => intro _; show -90 * ((0 : Nat) : Int) ≤ (0 : Int32).toInt ∧ (0 : Int32).toInt ≤ 90 * ((0 : Nat) : Int); decide
  | succ n ih =>
    intro hn
    obtain ⟨a1, a2⟩ := ih (by omega)
    obtain ⟨-, -, ⟨g1, g2, -⟩, -⟩ := hW.2.2.2.2.2.2.2.2 n (by omega)
    have hm := mt_le (tn_le c (dly (bt (c.1 2)) (hd c)) n later ht) g1 g2
    show _ ≤ (if bt (c.1 5) n then mnS c later t n + mtm c later t n else mnS c later t n).toInt ∧ (if bt (c.1 5) n then mnS c later t n + mtm c later t n else mnS c later t n).toInt ≤ _
    have hm' : -90 ≤ (mtm c later t n).toInt ∧ (mtm c later t n).toInt ≤ 90 := hm
    cases bt (c.1 5) n with
    | true =>
      simp only [if_true]
      rw [add_ti (by omega) (by omega)]
      omega
    | false =>
      simp only [Bool.false_eq_true, if_false]
      omega
theorem person_n (c : SS) {p : Nat} (hp : p < 8) : (fX5_isPerson c (nI p) = 0) ↔ bt (c.1 5) p = false := by
  rw [pc0]
  unfold PP
  rw [nI_ti (by omega), show ((p : Int)).toNat = p by omega]
  constructor
  · intro q
    cases h : bt (c.1 5) p with
    | false => rfl
    | true => exact absurd ⟨by omega, by omega, h⟩ q
  · intro q z
    rw [z.2.2] at q
    cases q
theorem toI64_add {x y : Int32} (h1 : -2147483648 ≤ x.toInt + y.toInt) (h2 : x.toInt + y.toInt < 2147483648) : (x + y).toInt64 = x.toInt64 + y.toInt64 := by
  apply Int64.toInt_inj.mp
  rw [Int32.toInt_toInt64, add_ti h1 h2, Int64.toInt_add, Int32.toInt_toInt64, Int32.toInt_toInt64]
  exact (Int.bmod_eq_of_le (by omega) (by omega)).symm
theorem mean_c1 {c z : SS} (hW : WOK c) (hf : HF c) (h : ZC c z) {later : Nat} (hl : later ≤ 100) (t a3 : Int32) (k : Int32 → Option (Int64 × SS)) : fX6_mean_L30 k z (nI later) t a3 fu 0 0 = k (mnS c later t 8) := by
  refine for_up0 (fun n i (_ : Unit) => fX6_mean_L30 k z (nI later) t a3 n (mnS c later t i) (nI i)) 8 (fun _ u => u) (fun _ => k (mnS c later t 8)) ?_ ?_ fu () (fu_big (by omega))
  · intro n i _ hi
    show fX6_mean_L30 k z (nI later) t a3 (n + 1) (mnS c later t i) (nI i) = fX6_mean_L30 k z (nI later) t a3 n (mnS c later t (i + 1)) (nI (i + 1))
    have e : mnS c later t (i + 1) = if bt (c.1 5) i then mnS c later t i + mtm c later t i else mnS c later t i := rfl
    rw [fX6_mean_L30, if_neg (n8 hi), inc_n, jn_e, e]
    cases hb : bt (c.1 5) i with
    | false =>
      rw [if_pos ((person_n z hi).mpr (by rw [h.1]; exact hb))]
      rfl
    | true =>
      rw [if_neg (fun q => by have := (person_n z hi).mp q; rw [h.1, hb] at this; cases this)]
      obtain ⟨⟨g1, g2, g3⟩, -⟩ := hW.2.2.2.2.2.2.2.2 i hi
      obtain ⟨d1, d2⟩ := zc_dl hW hf h (g3 hb)
      rw [ald_n hi (by decide), h.2.1 2 (by omega) (by omega) (by omega), g1, ald_n g2 (by decide), d1, tenths_c hW h.2.2.1 hi d2 hb _ rfl hl t, Option.bind_some, ald_n hi (by decide), ald_n hi (by decide), h.2.1 4 (by omega) (by omega) (by omega), h.2.1 5 (by omega) (by omega) (by omega)]
      rfl
  · intro n _
    show fX6_mean_L30 k z (nI later) t a3 (n + 1) (mnS c later t 8) (nI 8) = _
    rw [fX6_mean_L30, if_pos (show (8 : Int32) ≤ nI 8 by decide)]
theorem mean_m1 {c z : SS} (hW : WOK c) (hL : ML2 c z (c.1 2) (dly (bt (c.1 2)) (hd c))) {later : Nat} (hl : later ≤ 100) {t : Int32} (ht : 0 ≤ t.toInt ∧ t.toInt ≤ 10) (a3 : Int32) (k : Int64 → Option (Int64 × SS)) : fX7_mean_L43 k z (nI later) t a3 fu 0 0 = k (mnS c later t 8).toInt64 := by
  refine for_up0 (fun n i (_ : Unit) => fX7_mean_L43 k z (nI later) t a3 n (mnS c later t i).toInt64 (nI i)) 8 (fun _ u => u) (fun _ => k (mnS c later t 8).toInt64) ?_ ?_ fu () (fu_big (by omega))
  · intro n i _ hi
    show fX7_mean_L43 k z (nI later) t a3 (n + 1) (mnS c later t i).toInt64 (nI i) = fX7_mean_L43 k z (nI later) t a3 n (mnS c later t (i + 1)).toInt64 (nI (i + 1))
    have e : mnS c later t (i + 1) = if bt (c.1 5) i then mnS c later t i + mtm c later t i else mnS c later t i := rfl
    obtain ⟨r, t1, t2⟩ := tenths_m hW hL hi hl t
    rw [fX7_mean_L43, if_neg (n8 hi), inc_n, t1, Option.bind_some, jn_e, e]
    cases hb : bt (c.1 5) i with
    | false =>
      rw [if_pos ((there_m hL.2.1 hi).mpr hb)]
      show fX7_mean_L43 k z (nI later) t a3 n ((mnS c later t i).toInt64 + 0) _ = _
      rw [Int64.add_zero]; rfl
    | true =>
      rw [if_neg (fun q => by have := (there_m hL.2.1 hi).mp q; rw [hb] at this; cases this)]
      obtain ⟨-, -, q3, q4, -⟩ := hL.2.2.1 i hi
      obtain ⟨-, -, ⟨g1, g2, -⟩, -⟩ := hW.2.2.2.2.2.2.2.2 i hi
      have hm : -90 ≤ (mtm c later t i).toInt ∧ (mtm c later t i).toInt ≤ 90 := mt_le (tn_le c (dly (bt (c.1 2)) (hd c)) i later ht) g1 g2
      obtain ⟨s1, s2⟩ := mn_le hW later ht i (by omega)
      rw [ald_n hi (by decide), ald_n hi (by decide), q3, q4, t2 hb]
      simp only [if_true]
      rw [toI64_add (x := mnS c later t i) (y := mtm c later t i) (by omega) (by omega)]
      rfl
  · intro n _
    show fX7_mean_L43 k z (nI later) t a3 (n + 1) (mnS c later t 8).toInt64 (nI 8) = _
    rw [fX7_mean_L43, if_pos (show (8 : Int32) ≤ nI 8 by decide)]
theorem mean_c2 {c z : SS} {l t q : Int32} (h2 : ¬ fX6_areRunners l t q = 0) (e : fX6_readGoodHold c = some (1, z)) : fX6_mean c l t q = fX6_mean_L30 (fun x12 => Option.bind (fX6_partOf x12 10 q) (fun q13 => some (q13, z))) z l t q fu 0 0 := by
  unfold fX6_mean
  rw [if_neg h2, e, Option.bind_some, if_neg ((show ¬ (1 : Int32) = 0 by decide) : ¬ ((1 : Int32), z).1 = 0)]
theorem mean_m2 {m y z : SS} {l t q : Int32} (h2 : ¬ fX7_isRunning l t = 0) (h3 : ¬ fX7_in q.toInt64 (0 : Int64) (1 : Int64) = 0) (e : fX7_isRefused m = some (0, y)) (e2 : fX7_findLeaves y = some z) : fX7_mean m l t q = fX7_mean_L43 (fun x12 => Option.bind (fX7_lowest x12 10 q) (fun q13 => some (q13, z))) z l t q fu 0 0 := by
  unfold fX7_mean
  rw [if_neg h2, if_neg h3, e, Option.bind_some, if_pos rfl, e2, Option.bind_some]
theorem ok_mean : OK_mean Inv := by
  intro c m i0 i1 l t q h
  obtain ⟨hW, hR, hP, hi0, hi1, hX⟩ := id h
  by_cases hr : runOK l t
  · have g2 : ¬ fX7_isRunning l t = 0 := fun z => (running_m l t).mp z hr
    by_cases hq : 0 ≤ q.toInt ∧ q.toInt ≤ 1
    · have h2 : ¬ fX6_areRunners l t q = 0 := fun z => (runners_c l t q).mp z ⟨hr, hq⟩
      have g3 : ¬ fX7_in q.toInt64 (0 : Int64) (1 : Int64) = 0 := fun z => (lq0 q).mp z hq
      rcases rgh_c hW hP with ⟨hg, z, e, hz⟩ | ⟨hg, z, e, hz⟩
      · rcases ref_m hW hR hP with ⟨-, y, f, hy, hms⟩ | ⟨hn, -⟩
        · have hf := hg.1
          obtain ⟨lt, l1, rfl, l3⟩ := nI_back (show 0 ≤ l.toInt by have := hr.1.1; omega)
          have hlt : lt ≤ 100 := by have := hr.1.2; omega
          obtain ⟨b1, b2⟩ := mn_le hW lt hr.2 8 (by omega)
          obtain ⟨r2, s1, s2⟩ := part_s (x := mnS c lt t 8) (by omega) (by omega) (lit01 q hq)
          rw [mean_c2 h2 e, mean_m2 g2 g3 f (leaves_m hW hy), mean_c1 hW hf hz hlt, mean_m1 hW (hy.l2 hW) hlt hr.2, s1, s2, Option.bind_some, Option.bind_some]
          exact ⟨_, _, _, rfl, rfl, Inv_of h (hz.cm hW hf) (flv_ms hms)⟩
        · exact absurd hg hn
      · rcases ref_m hW hR hP with ⟨hn, -⟩ | ⟨-, y, f, hms⟩
        · exact absurd hn hg
        · unfold fX6_mean fX7_mean
          rw [if_neg h2, if_neg g2, if_neg g3, e, f, Option.bind_some, Option.bind_some, if_pos rfl, if_neg ((show ¬ (1 : Int32) = 0 by decide) : ¬ ((1 : Int32), y).1 = 0)]
          exact ⟨_, _, _, rfl, rfl, Inv_of h hz hms⟩
    · have h2 : fX6_areRunners l t q = 0 := (runners_c l t q).mpr (fun z => hq z.2)
      have g3 : fX7_in q.toInt64 (0 : Int64) (1 : Int64) = 0 := (lq0 q).mpr hq
      unfold fX6_mean fX7_mean
      rw [if_pos h2, if_neg g2, if_pos g3]
      exact ⟨_, _, _, rfl, rfl, h⟩
  · have h2 : fX6_areRunners l t q = 0 := (runners_c l t q).mpr (fun z => hr z.1)
    have g2 : fX7_isRunning l t = 0 := (running_m l t).mpr hr
    unfold fX6_mean fX7_mean
    rw [if_pos h2, if_pos g2]
    exact ⟨_, _, _, rfl, rfl, h⟩
