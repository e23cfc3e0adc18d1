/-- the next number of the year's row -/
def nx (k : Nat) : Nat := (75 * k + 74) % 65537
theorem nx_le (k : Nat) : nx k ≤ 65536 := by
  have : nx k < 65537 := Nat.mod_lt _ (by decide)
  omega
theorem nx_c {k : Nat} (hk : k ≤ 65536) : irm ((75 : Int32) * nI k + 74) 65537 = nI (nx k) := by
  have e1 : (nI k).toInt = (k : Int) := nI_ti (by omega)
  have e2 : ((75 : Int32) * nI k).toInt = 75 * (k : Int) := by
    rw [mul_ti (by rw [e1, show (75 : Int32).toInt = 75 from rfl]; omega) (by rw [e1, show (75 : Int32).toInt = 75 from rfl]; omega), e1]; rfl
  have e3 : ((75 : Int32) * nI k + 74).toInt = 75 * (k : Int) + 74 := by
    rw [add_ti (by rw [e2, show (74 : Int32).toInt = 74 from rfl]; omega) (by rw [e2, show (74 : Int32).toInt = 74 from rfl]; omega), e2]; rfl
  have := nx_le k
  refine nI_lit (by omega) ?_
  rw [(irm_ti (by rw [e3]; omega) (by decide)).1, e3, show (65537 : Int32).toInt = 65537 from rfl]
  unfold nx
  omega
theorem nx_m {k : Nat} (hk : k ≤ 65536) : (lrm ((75 : Int64) * (nI k).toInt64 + 74) 65537).toInt32 = nI (nx k) := by
  have e1 : (nI k).toInt = (k : Int) := nI_ti (by omega)
  have e2 : ((75 : Int64) * (nI k).toInt64).toInt = 75 * (k : Int) := by
    rw [Int64.toInt_mul, Int32.toInt_toInt64, e1, show (75 : Int64).toInt = 75 from rfl]
    exact Int.bmod_eq_of_le (by omega) (by omega)
  have e3 : ((75 : Int64) * (nI k).toInt64 + 74).toInt = 75 * (k : Int) + 74 := by
    rw [Int64.toInt_add, e2, show (74 : Int64).toInt = 74 from rfl]
    exact Int.bmod_eq_of_le (by omega) (by omega)
  generalize ((75 : Int64) * (nI k).toInt64 + 74) = y at e3
  have e4 : (y / 65537).toInt = (75 * (k : Int) + 74) / 65537 := by
    rw [Int64.toInt_div, e3, show (65537 : Int64).toInt = 65537 from rfl, Int.tdiv_eq_ediv_of_nonneg (by omega)]
    exact Int.bmod_eq_of_le (by omega) (by omega)
  have e5 : (y / 65537 * 65537).toInt = (75 * (k : Int) + 74) / 65537 * 65537 := by
    rw [Int64.toInt_mul, e4, show (65537 : Int64).toInt = 65537 from rfl]
    exact Int.bmod_eq_of_le (by omega) (by omega)
  have e6 : (lrm y 65537).toInt = (nx k : Int) := by
    show (y - y / 65537 * 65537).toInt = _
    rw [Int64.toInt_sub, e5, e3]
    unfold nx
    rw [Int.bmod_eq_of_le (by omega) (by omega)]
    omega
  have := nx_le k
  refine nI_lit (by omega) ?_
  rw [Int64.toInt_toInt32, e6]
  exact Int.bmod_eq_of_le (by omega) (by omega)
theorem yl_late {x : Nat} (hx : x ≤ 65536) : irm (nI x / 256) 4 = nI (x / 256 % 4) := by
  have e1 : (nI x).toInt = (x : Int) := nI_ti (by omega)
  have e2 := (irm_ti (x := nI x) (y := 256) (by rw [e1]; omega) (by decide)).2
  rw [e1, show (256 : Int32).toInt = 256 from rfl] at e2
  refine nI_lit (by omega) ?_
  rw [(irm_ti (by rw [e2]; omega) (by decide)).1, e2, show (4 : Int32).toInt = 4 from rfl]
  omega
theorem yl_cnt {x : Nat} (hx : x ≤ 65536) : irm (nI x) 256 = nI (x % 256) := by
  have e1 : (nI x).toInt = (x : Int) := nI_ti (by omega)
  refine nI_lit (by omega) ?_
  rw [(irm_ti (by rw [e1]; omega) (by decide)).1, e1, show (256 : Int32).toInt = 256 from rfl]
  omega
theorem nI_tb (x i : Nat) (hi : i < 32) : bt (nI x) i = x.testBit i := by
  show (BitVec.ofNat 32 x).getLsbD i = _
  rw [BitVec.getLsbD_ofNat]
  simp [hi]
theorem nI_m256 (x p : Nat) (hp : p < 8) : bt (nI (x % 256)) p = bt (nI x) p := by
  rw [nI_tb _ _ (by omega), nI_tb _ _ (by omega), show 256 = 2 ^ 8 from rfl, Nat.testBit_mod_two_pow]
  simp [hp]
/-- who rides on a night of the year -/
def yr (c : SS) (x p : Nat) : Bool := bt (c.1 5) p && (bt (nI x) p && rdB c (bt (c.1 2)) (dly (bt (c.1 2)) (hd c)) (x / 256 % 4) p)
def yg (c : SS) (x : Nat) : Int32 := gdS c (fun p => bt (c.1 5) p && bt (nI x) p) (yr c x)
theorem yr_and (c : SS) (x : Nat) : ((c.1 5 &&& nI x) &&& bs (rdB c (bt (c.1 2)) (dly (bt (c.1 2)) (hd c)) (x / 256 % 4))) = bs (yr c x) := by
  apply b_ext
  intro i hi
  rw [b_and, b_and, bs_bt, bs_bt]
  unfold yr
  cases bt (c.1 5) i <;> cases bt (nI x) i <;> simp
theorem gdS_z {c z : SS} (h4 : z.2 4 = c.2 4) (h5 : z.2 5 = c.2 5) (f g : Nat → Bool) : gdS z f g = gdS c f g := by
  unfold gdS
  rw [h4, h5]
def ys (c : SS) (s : Nat × Int32 × Int32 × Int32) : Nat × Int32 × Int32 × Int32 := (nx s.1, s.2.1 + yg c (nx s.1), s.2.2.1 + fJ6_bitCount_0f7a4 (bs (yr c (nx s.1))), s.2.2.2 + (if bs (yr c (nx s.1)) = 0 then 1 else 0))
theorem year_c1 {c z : SS} (hW : WOK c) (hf : HF c) (hX : XB c) (h : ZC c z) {N : Nat} (hN : N ≤ 99) (a3 : Int32) (k : Int32 → Int32 → Int32 → Option (Int32 × SS)) {x0 : Nat} (hx : x0 ≤ 65536) : fX6_year_L58 k z (nI N) a3 fu (nI x0) 0 0 0 0 = (fun s : Nat × Int32 × Int32 × Int32 => k s.2.1 s.2.2.1 s.2.2.2) (lp N (fun _ s => ys c s) (x0, 0, 0, 0)) := by
  obtain ⟨z1, z2, -⟩ := id h
  refine (for_up (fun n i (s : Nat × Int32 × Int32 × Int32) => fX6_year_L58 k z (nI N) a3 n (nI s.1) s.2.1 s.2.2.1 s.2.2.2 (nI i)) N (fun _ s => ys c s) (fun s => k s.2.1 s.2.2.1 s.2.2.2) (fun _ s => s.1 ≤ 65536) ?_ ?_ ?_ fu (x0, 0, 0, 0) (fu_big (by omega)) hx).1
  · intro n i ⟨x, g, r, w⟩ hi hs
    have hs' : x ≤ 65536 := hs
    show fX6_year_L58 k z (nI N) a3 (n + 1) (nI x) g r w (nI i) = fX6_year_L58 k z (nI N) a3 n (nI (nx x)) (g + yg c (nx x)) (r + fJ6_bitCount_0f7a4 (bs (yr c (nx x)))) (w + (if bs (yr c (nx x)) = 0 then 1 else 0)) (nI (i + 1))
    have hl := nx_le x
    rw [fX6_year_L58, if_neg (nI_ge hi (by omega)), nx_c hs', yl_late hl, zc_late hW hf hX h _ (by omega), Option.bind_some, z1, yr_and, among_c, Option.bind_some, inc_n]
    have e : gdS z (bt (c.1 5 &&& nI (nx x))) (bt (bs (yr c (nx x)))) = yg c (nx x) := by
      rw [gdS_z (z2 4 (by omega) (by omega) (by omega)) (z2 5 (by omega) (by omega) (by omega)), gd_bs]
      exact gdS_congr (fun p hp => b_and _ _ _) (fun _ _ _ => rfl)
    rw [e, jn_e]
    by_cases q : bs (yr c (nx x)) = 0
    · rw [if_pos q, if_pos q]
    · rw [if_neg q, if_neg q]
  · intro n ⟨x, g, r, w⟩ hs
    show fX6_year_L58 k z (nI N) a3 (n + 1) (nI x) g r w (nI N) = k g r w
    rw [fX6_year_L58, if_pos (Int32.le_refl _)]
  · intro i s hi hs
    exact nx_le _
theorem year_m0 {c z : SS} (hW : WOK c) (hL : ML2 c z (c.1 2) (dly (bt (c.1 2)) (hd c))) {x : Nat} (hx : x ≤ 65536) (k : Int32 → Option (Int32 × SS)) (a2 a3 a5 a6 a7 a8 : Int32) : fX7_year_L99 k z a2 a3 (nI x) a5 a6 a7 a8 fu 0 0 = k (bs (yr c x)) := by
  unfold bs
  refine for_up0 (fun n i b => fX7_year_L99 k z a2 a3 (nI x) a5 a6 a7 a8 n b (nI i)) 8 (fun p b => b ||| (if yr c x p then (1 : Int32) <<< (nI p &&& 31) else 0)) k ?_ ?_ fu 0 (fu_big (by omega))
  · intro n i b hi
    show fX7_year_L99 k z a2 a3 (nI x) a5 a6 a7 a8 (n + 1) b (nI i) = fX7_year_L99 k z a2 a3 (nI x) a5 a6 a7 a8 n _ (nI (i + 1))
    rw [fX7_year_L99, if_neg (n8 hi), inc_n]
    simp only [jn_e]
    obtain ⟨r, r1, r2⟩ := rides_m hW hL hi (late := x / 256 % 4) (by omega)
    cases hp : bt (c.1 5) i with
    | false =>
      rw [if_pos ((there_m hL.2.1 hi).mpr hp)]
      have : yr c x i = false := by unfold yr; rw [hp]; rfl
      rw [this]; rfl
    | true =>
      rw [if_neg (fun q => by have := (there_m hL.2.1 hi).mp q; rw [hp] at this; cases this)]
      cases hb : bt (nI x) i with
      | false =>
        rw [if_neg (fun q => by have := (tb1 (nI x) (show i < 32 by omega)).mp q; rw [hb] at this; cases this)]
        have : yr c x i = false := by unfold yr; rw [hb]; simp
        rw [this]; rfl
      | true =>
        rw [if_pos ((tb1 (nI x) (show i < 32 by omega)).mpr hb), yl_late hx, r1, Option.bind_some, r2 hp]
        have : yr c x i = rdB c (bt (c.1 2)) (dly (bt (c.1 2)) (hd c)) (x / 256 % 4) i := by unfold yr; rw [hb, hp]; simp
        rw [this]
        cases rdB c (bt (c.1 2)) (dly (bt (c.1 2)) (hd c)) (x / 256 % 4) i with
        | true => rfl
        | false => rfl
  · intro n b
    show fX7_year_L99 k z a2 a3 (nI x) a5 a6 a7 a8 (n + 1) b (nI 8) = k b
    rw [fX7_year_L99, if_pos (show (8 : Int32) ≤ nI 8 by decide)]
theorem year_m1 {c z : SS} (hW : WOK c) (hL : ML2 c z (c.1 2) (dly (bt (c.1 2)) (hd c))) {N : Nat} (hN : N ≤ 99) (a3 : Int32) (k : Int32 → Int32 → Int32 → Option (Int32 × SS)) {x0 : Nat} (hx : x0 ≤ 65536) : fX7_year_L69 k z (nI N) a3 fu (nI x0) (0 + 100000) 0 0 (nI 0) = (fun s : Nat × Int32 × Int32 × Int32 => k (s.2.1 + 100000) s.2.2.1 s.2.2.2) (lp N (fun _ s => ys c s) (x0, 0, 0, 0)) := by
  refine (for_up (fun n i (s : Nat × Int32 × Int32 × Int32) => fX7_year_L69 k z (nI N) a3 n (nI s.1) (s.2.1 + 100000) s.2.2.1 s.2.2.2 (nI i)) N (fun _ s => ys c s) (fun s => k (s.2.1 + 100000) s.2.2.1 s.2.2.2) (fun _ s => s.1 ≤ 65536) ?_ ?_ ?_ fu (x0, 0, 0, 0) (fu_big (by omega)) hx).1
  · intro n i ⟨x, g, r, w⟩ hi hs
    have hs' : x ≤ 65536 := hs
    show fX7_year_L69 k z (nI N) a3 (n + 1) (nI x) (g + 100000) r w (nI i) = fX7_year_L69 k z (nI N) a3 n (nI (nx x)) (g + yg c (nx x) + 100000) (r + fJ6_bitCount_0f7a4 (bs (yr c (nx x)))) (w + (if bs (yr c (nx x)) = 0 then 1 else 0)) (nI (i + 1))
    have hl := nx_le x
    rw [fX7_year_L69, if_neg (nI_ge hi (by omega)), nx_m hs', year_m0 hW hL hl, yl_cnt hl, good_ms hL.2.1 hL.2.2.1, Option.bind_some, ones_bc (small_of_bits (n := 8) (by omega) (fun i hi => by rw [bs_bt]; simp; omega)), Option.bind_some, inc_n]
    have e : gdS c (fun p => bt (c.1 5) p && bt (nI (nx x % 256)) p) (bt (bs (yr c (nx x)))) = yg c (nx x) := by
      rw [gd_bs]
      exact gdS_congr (fun p hp => by rw [nI_m256 _ _ hp]) (fun _ _ _ => rfl)
    have e2 : ∀ a b : Int32, a + 100000 + b = a + b + 100000 := fun a b => by rw [Int32.add_assoc, Int32.add_comm 100000 b, ← Int32.add_assoc]
    rw [e, jn_e, e2]
    by_cases q : bs (yr c (nx x)) = 0
    · rw [if_pos q, if_pos q]
    · rw [if_neg q, if_neg q]
  · intro n ⟨x, g, r, w⟩ hs
    show fX7_year_L69 k z (nI N) a3 (n + 1) (nI x) (g + 100000) r w (nI N) = k (g + 100000) r w
    rw [fX7_year_L69, if_pos (Int32.le_refl _)]
  · intro i s hi hs
    exact nx_le _
theorem year_m4 (k : Int32 → Int32 → Int32 → Option (Int32 × SS)) (z : SS) (a b x : Int32) : fX7_year_L69 k z a b fu x 100000 0 0 0 = fX7_year_L69 k z a b fu x (0 + 100000) 0 0 (nI 0) := by
  have e1 : (0 : Int32) + 100000 = 100000 := Int32.zero_add _
  have e2 : nI 0 = 0 := rfl
  rw [e1, e2]
theorem year_c2 {c z : SS} {a1 a2 a3 : Int32} (h1 : ¬ fX6_within a1 0 9999 = 0) (h2 : ¬ fX6_within a2 1 99 = 0) (h3 : ¬ fX6_within a3 0 2 = 0) (e : fX6_readGoodHold c = some (1, z)) : fX6_year c a1 a2 a3 = fX6_year_L58 (fun (x11 : Int32) (x12 : Int32) (x13 : Int32) => if a3 = (0 : Int32) then some ((x11 + (100000 : Int32)), z) else if a3 = (1 : Int32) then some (x12, z) else some (x13, z)) z a2 a3 fu a1 0 0 0 0 := by
  unfold fX6_year
  rw [if_neg h1, if_neg h2, if_neg h3, e, Option.bind_some, if_neg ((show ¬ (1:Int32)=0 by decide) : ¬ ((1:Int32), z).1 = 0)]
theorem year_c3 {c z : SS} {a1 a2 a3 : Int32} (h1 : ¬ fX6_within a1 0 9999 = 0) (h2 : ¬ fX6_within a2 1 99 = 0) (h3 : ¬ fX6_within a3 0 2 = 0) (e : fX6_readGoodHold c = some (0, z)) : fX6_year c a1 a2 a3 = some (-5, z) := by
  unfold fX6_year
  rw [if_neg h1, if_neg h2, if_neg h3, e, Option.bind_some, if_pos (rfl : ((0:Int32), z).1 = 0)]
theorem year_m2 {m y z : SS} {a1 a2 a3 : Int32} (h1 : ¬ fX7_in a1.toInt64 0 9999 = 0) (h2 : ¬ fX7_in a2.toInt64 1 99 = 0) (h3 : ¬ fX7_in a3.toInt64 0 2 = 0) (e : fX7_isRefused m = some (0, y)) (e2 : fX7_findLeaves y = some z) : fX7_year m a1 a2 a3 = fX7_year_L69 (fun (x19 : Int32) (x20 : Int32) (x21 : Int32) => if a3 = (0 : Int32) then some (x19, z) else if a3 = (1 : Int32) then some (x20, z) else some (x21, z)) z a2 a3 fu a1 100000 0 0 0 := by
  unfold fX7_year
  rw [if_neg h1, if_neg h2, if_neg h3, e, Option.bind_some, if_pos (rfl : ((0:Int32), y).1 = 0), e2, Option.bind_some]
theorem year_m3 {m y : SS} {a1 a2 a3 : Int32} (h1 : ¬ fX7_in a1.toInt64 0 9999 = 0) (h2 : ¬ fX7_in a2.toInt64 1 99 = 0) (h3 : ¬ fX7_in a3.toInt64 0 2 = 0) (e : fX7_isRefused m = some (1, y)) : fX7_year m a1 a2 a3 = some (-5, y) := by
  unfold fX7_year
  rw [if_neg h1, if_neg h2, if_neg h3, e, Option.bind_some, if_neg ((show ¬ (1:Int32)=0 by decide) : ¬ ((1:Int32), y).1 = 0)]
theorem ok_year : OK_year Inv := by
  intro c m i0 i1 a1 a2 a3 h
  obtain ⟨hW, hR, hP, hi0, hi1, hX⟩ := id h
  have w1 : (fX6_within a1 0 9999 = 0) ↔ ¬ (0 ≤ a1.toInt ∧ a1.toInt ≤ 9999) := by rw [win, ite0]; rfl
  have v1 : (fX7_in a1.toInt64 0 9999 = 0) ↔ ¬ (0 ≤ a1.toInt ∧ a1.toInt ≤ 9999) := by rw [lin, ite0]; rfl
  have w2 : (fX6_within a2 1 99 = 0) ↔ ¬ (1 ≤ a2.toInt ∧ a2.toInt ≤ 99) := by rw [win, ite0]; rfl
  have v2 : (fX7_in a2.toInt64 1 99 = 0) ↔ ¬ (1 ≤ a2.toInt ∧ a2.toInt ≤ 99) := by rw [lin, ite0]; rfl
  have w3 : (fX6_within a3 0 2 = 0) ↔ ¬ (0 ≤ a3.toInt ∧ a3.toInt ≤ 2) := by rw [win, ite0]; rfl
  have v3 : (fX7_in a3.toInt64 0 2 = 0) ↔ ¬ (0 ≤ a3.toInt ∧ a3.toInt ≤ 2) := by rw [lin, ite0]; rfl
  by_cases h1 : 0 ≤ a1.toInt ∧ a1.toInt ≤ 9999
  · by_cases h2 : 1 ≤ a2.toInt ∧ a2.toInt ≤ 99
    · by_cases h3 : 0 ≤ a3.toInt ∧ a3.toInt ≤ 2
      · have c1 := fun q => w1.mp q h1
        have c2 := fun q => w2.mp q h2
        have c3 := fun q => w3.mp q h3
        have d1 := fun q => v1.mp q h1
        have d2 := fun q => v2.mp q h2
        have d3 := fun q => v3.mp q h3
        obtain ⟨x0, x1, x2, x3⟩ := nI_back h1.1
        obtain ⟨N, N1, N2, N3⟩ := nI_back (show 0 ≤ a2.toInt by omega)
        have hx0 : x0 ≤ 65536 := by omega
        have hN : N ≤ 99 := by omega
        rcases rgh_c hW hP with ⟨hg, z, e, hz⟩ | ⟨hg, z, e, hz⟩
        · rcases ref_m hW hR hP with ⟨-, y, f, hy, hms⟩ | ⟨hn, -⟩
          · have hI2 := Inv_of h (hz.cm hW hg.1) (flv_ms (c := c) (sh := c.1 2) (h := hd c) hms)
            rw [year_c2 c1 c2 c3 e, year_m2 d1 d2 d3 f (leaves_m hW hy), x2, N2, year_c1 hW hg.1 hX hz hN _ _ hx0, year_m4, year_m1 hW (hy.l2 hW) hN _ _ hx0]
            generalize lp N (fun _ s => ys c s) (x0, 0, 0, 0) = s
            by_cases p0 : a3 = 0
            · exact ⟨_, _, _, if_pos p0, if_pos p0, hI2⟩
            · by_cases p1 : a3 = 1
              · exact ⟨_, _, _, (if_neg p0).trans (if_pos p1), (if_neg p0).trans (if_pos p1), hI2⟩
              · exact ⟨_, _, _, (if_neg p0).trans (if_neg p1), (if_neg p0).trans (if_neg p1), hI2⟩
          · exact absurd hg hn
        · rcases ref_m hW hR hP with ⟨hn, -⟩ | ⟨-, y, f, hms⟩
          · exact absurd hn hg
          · exact ⟨_, _, _, year_c3 c1 c2 c3 e, year_m3 d1 d2 d3 f, Inv_of h hz hms⟩
      · unfold fX6_year fX7_year
        rw [if_neg (fun q => w1.mp q h1), if_neg (fun q => w2.mp q h2), if_pos (w3.mpr h3), if_neg (fun q => v1.mp q h1), if_neg (fun q => v2.mp q h2), if_pos (v3.mpr h3)]
        exact ⟨_, _, _, rfl, rfl, h⟩
    · unfold fX6_year fX7_year
      rw [if_neg (fun q => w1.mp q h1), if_pos (w2.mpr h2), if_neg (fun q => v1.mp q h1), if_pos (v2.mpr h2)]
      exact ⟨_, _, _, rfl, rfl, h⟩
  · unfold fX6_year fX7_year
    rw [if_pos (w1.mpr h1), if_pos (v1.mpr h1)]
    exact ⟨_, _, _, rfl, rfl, h⟩
