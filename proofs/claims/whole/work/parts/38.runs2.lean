theorem part_s {x : Int32} (h1 : -720 ≤ x.toInt) (h2 : x.toInt ≤ 720) {p : Int32} (hp : p = 0 ∨ p = 1) : ∃ r, fX6_partOf x 10 p = some r ∧ fX7_lowest x.toInt64 10 p = some r := by
  have hx : ∃ u : Fin 1441, x = prt u.val := by
    refine ⟨⟨(x.toInt + 720).toNat, by omega⟩, ?_⟩
    apply Int32.toInt_inj.mp
    unfold prt
    have e : (nI (x.toInt + 720).toNat).toInt = x.toInt + 720 := by rw [nI_ti (by omega)]; omega
    rw [sub_ti (by rw [e]; show _ ≤ _ - (720 : Int); omega) (by rw [e]; show _ - (720 : Int) < _; omega), e]
    show _ = _ - (720 : Int)
    omega
  obtain ⟨u, rfl⟩ := hx
  obtain ⟨⟨a1, a2⟩, b1, b2⟩ := part_all u
  rcases hp with rfl | rfl
  · obtain ⟨r, hr⟩ := Option.isSome_iff_exists.mp a2
    exact ⟨r, hr, by rw [← a1]; exact hr⟩
  · obtain ⟨r, hr⟩ := Option.isSome_iff_exists.mp b2
    exact ⟨r, hr, by rw [← b1]; exact hr⟩
def runOK (l t : Int32) : Prop := (1 ≤ l.toInt ∧ l.toInt ≤ 20) ∧ (0 ≤ t.toInt ∧ t.toInt ≤ 10)
theorem runners_c (l t p : Int32) : (fX6_areRunners l t p = 0) ↔ ¬ (runOK l t ∧ (0 ≤ p.toInt ∧ p.toInt ≤ 1)) := by
  unfold fX6_areRunners runOK
  rw [win, win, win]
  simp only [ite0]
  have e1 : (1 : Int32).toInt = 1 := rfl
  have e20 : (20 : Int32).toInt = 20 := rfl
  have e0 : (0 : Int32).toInt = 0 := rfl
  have e10 : (10 : Int32).toInt = 10 := rfl
  rw [e1, e20, e0, e10]
  by_cases a : 1 ≤ l.toInt ∧ l.toInt ≤ 20
  · by_cases b : 0 ≤ t.toInt ∧ t.toInt ≤ 10
    · by_cases d : 0 ≤ p.toInt ∧ p.toInt ≤ 1
      · simp [a, b, d]
      · simp [a, b, d]
    · simp [a, b]
  · simp [a]
theorem running_m (l t : Int32) : (fX7_isRunning l t = 0) ↔ ¬ runOK l t := by
  unfold fX7_isRunning runOK
  rw [lin, lin]
  simp only [ite0]
  have e1 : (1 : Int64).toInt = 1 := rfl
  have e20 : (20 : Int64).toInt = 20 := rfl
  have e0 : (0 : Int64).toInt = 0 := rfl
  have e10 : (10 : Int64).toInt = 10 := rfl
  rw [e1, e20, e0, e10]
  by_cases a : 1 ≤ l.toInt ∧ l.toInt ≤ 20
  · by_cases b : 0 ≤ t.toInt ∧ t.toInt ≤ 10
    · simp [a, b]
    · simp [a, b]
  · simp [a]
theorem tn_le (c : SS) (d : Nat → Nat) (p later : Nat) {t : Int32} (ht : 0 ≤ t.toInt ∧ t.toInt ≤ 10) : 0 ≤ (tnS c d p later t).toInt ∧ (tnS c d p later t).toInt ≤ 10 := by
  obtain ⟨k, k1, rfl, k3⟩ := nI_back ht.1
  have hk : k ≤ 10 := by omega
  have e : (10 : Int32) - nI k = nI (10 - k) := by
    apply Int32.toInt_inj.mp
    have ek : (nI k).toInt = (k : Int) := nI_ti (by omega)
    rw [sub_ti (by rw [ek]; show _ ≤ (10 : Int) - _; omega) (by rw [ek]; show (10 : Int) - _ < _; omega), ek, nI_ti (by omega)]
    show (10 : Int) - _ = _
    omega
  unfold tnS
  rw [e]
  have z0 : (0 : Int32) = nI 0 := rfl
  have fin : ∀ a b : Nat, a + b ≤ 10 → 0 ≤ (nI a + nI b).toInt ∧ (nI a + nI b).toInt ≤ 10 := by
    intro a b hab
    rw [nI_add, nI_ti (by omega)]
    omega
  cases rdB c (bt (c.1 2)) d 0 p <;> cases rdB c (bt (c.1 2)) d later p
  · exact fin 0 0 (by omega)
  · exact fin 0 k (by omega)
  · exact fin (10 - k) 0 (by omega)
  · exact fin (10 - k) k (by omega)
theorem zc_at {c z : SS} (hf : HF c) (h : ZC c z) {s : Nat} (hs : s < vn c) : z.2 20 s = nI (dly (bt (c.1 2)) (hd c) s) ∧ dly (bt (c.1 2)) (hd c) s ≤ 99 → True := fun _ => trivial
theorem zc_dl {c z : SS} (hW : WOK c) (hf : HF c) (h : ZC c z) {s : Nat} (hs : s < vn c) : z.2 20 s = nI (dly (bt (c.1 2)) (hd c) s) ∧ dly (bt (c.1 2)) (hd c) s ≤ 99 := by
  have n3 := hW.1.2.2
  have e : dly (bt (c.1 2)) (hd c) s = hS c (s + 1) := hd_dl c _
  rw [e]
  have : hS c (s + 1) ≤ 9 * (s + 1) := hdS_le hf (s + 1) (by omega)
  exact ⟨h.2.2.2.2.1 s hs, by omega⟩
theorem runs_c1 {c z : SS} (hW : WOK c) (hf : HF c) (h : ZC c z) {p later : Nat} (hp : p < 8) (hb : bt (c.1 5) p = true) (hl : later ≤ 100) (t : Int32) : ald 8 (z.2 2) (nI p) (fun v5 => ald 6 (z.2 20) v5 (fun v6 => Option.bind (fX4_tenths z (nI p) v6 (nI later) t) (fun q => some q))) = some (tnS c (dly (bt (c.1 2)) (hd c)) p later t) := by
  obtain ⟨⟨g1, g2, g3⟩, -⟩ := hW.2.2.2.2.2.2.2.2 p hp
  obtain ⟨e1, e2⟩ := zc_dl hW hf h (g3 hb)
  rw [ald_n hp (by decide), h.2.1 2 (by omega) (by omega) (by omega), g1, ald_n g2 (by decide), e1, tenths_c hW h.2.2.1 hp e2 hb _ rfl hl]
  rfl
def PP (c : SS) (p : Int32) : Prop := 0 ≤ p.toInt ∧ p.toInt ≤ 7 ∧ bt (c.1 5) p.toInt.toNat = true
theorem pc0 (c : SS) (p : Int32) : (fX5_isPerson c p = 0) ↔ ¬ PP c p := by rw [person_c, ite0]; rfl
theorem pm0 {c m : SS} (hR : WR c m) (p : Int32) : (fX7_isThere m p = 0) ↔ ¬ PP c p := by rw [person_m hR, ite0]; rfl
theorem lq0 (q : Int32) : (fX7_in q.toInt64 (0 : Int64) (1 : Int64) = 0) ↔ ¬ (0 ≤ q.toInt ∧ q.toInt ≤ 1) := by rw [lin01, ite0]
theorem PP.n {c : SS} {p : Int32} (h : PP c p) : ∃ k, k < 8 ∧ p = nI k ∧ bt (c.1 5) k = true := by
  obtain ⟨k, k1, rfl, k3⟩ := nI_back h.1
  have ek : (nI k).toInt.toNat = k := by rw [nI_ti k3]; omega
  refine ⟨k, by have := h.2.1; omega, rfl, ?_⟩
  have := h.2.2
  rw [ek] at this
  exact this
theorem runs_c2 {c z : SS} {p l t q : Int32} {v5 v6 r : Int32} {r2 : Int64} (h1 : ¬ fX5_isPerson c p = 0) (h2 : ¬ fX6_areRunners l t q = 0) (e : fX6_readGoodHold c = some (1, z)) (k : Nat) (hp : p = nI k) (hk : k < 8) (e5 : z.2 2 k = v5) (a : Nat) (ha : v5 = nI a) (ha6 : a < 6) (e6 : z.2 20 a = v6) (et : fX4_tenths z p v6 l t = some r) (ep : fX6_partOf r 10 q = some r2) : fX6_runs c p l t q = some (r2, z) := by
  unfold fX6_runs
  rw [if_neg h1, if_neg h2, e, Option.bind_some, if_neg ((show ¬ (1 : Int32) = 0 by decide) : ¬ ((1 : Int32), z).1 = 0)]
  show ald 8 (z.2 2) p _ = _
  rw [hp, ald_n hk (by decide), e5, ha, ald_n ha6 (by decide), e6, ← hp, et, Option.bind_some, ep, Option.bind_some]
theorem runs_m2 {m y z : SS} {p l t q r : Int32} {r2 : Int64} (h1 : ¬ fX7_isThere m p = 0) (h2 : ¬ fX7_isRunning l t = 0) (h3 : ¬ fX7_in q.toInt64 (0 : Int64) (1 : Int64) = 0) (e : fX7_isRefused m = some (0, y)) (e2 : fX7_findLeaves y = some z) (et : fX7_tenthsOf z p l t = some r) (ep : fX7_lowest r.toInt64 10 q = some r2) : fX7_runs m p l t q = some (r2, z) := by
  unfold fX7_runs
  rw [if_neg h1, if_neg h2, if_neg h3, e, Option.bind_some, if_pos rfl, e2, Option.bind_some, et, Option.bind_some, ep, Option.bind_some]
theorem ok_runs : OK_runs Inv := by
  intro c m i0 i1 p l t q h
  obtain ⟨hW, hR, hP, hi0, hi1, hX⟩ := id h
  by_cases hp : PP c p
  · have h1 : ¬ fX5_isPerson c p = 0 := fun z => (pc0 c p).mp z hp
    have g1 : ¬ fX7_isThere m p = 0 := fun z => (pm0 hR p).mp z hp
    by_cases hr : runOK l t
    · have g2 : ¬ fX7_isRunning l t = 0 := fun z => (running_m l t).mp z hr
      by_cases hq : 0 ≤ q.toInt ∧ q.toInt ≤ 1
      · have h2 : ¬ fX6_areRunners l t q = 0 := fun z => (runners_c l t q).mp z ⟨hr, hq⟩
        have g3 : ¬ fX7_in q.toInt64 (0 : Int64) (1 : Int64) = 0 := fun z => (lq0 q).mp z hq
        rcases rgh_c hW hP with ⟨hg, z, e, hz⟩ | ⟨hg, z, e, hz⟩
        · rcases ref_m hW hR hP with ⟨-, y, f, hy, hms⟩ | ⟨hn, -⟩
          · have hf := hg.1
            obtain ⟨k, hk, rfl, hb⟩ := hp.n
            obtain ⟨lt, l1, rfl, l3⟩ := nI_back (show 0 ≤ l.toInt by have := hr.1.1; omega)
            have hlt : lt ≤ 100 := by have := hr.1.2; omega
            obtain ⟨⟨a1, a2, a3⟩, -⟩ := hW.2.2.2.2.2.2.2.2 k hk
            obtain ⟨d1, d2⟩ := zc_dl hW hf hz (a3 hb)
            obtain ⟨r, t1, t2⟩ := tenths_m hW (hy.l2 hW) hk hlt t
            have t3 := t2 hb
            subst t3
            obtain ⟨b1, b2⟩ := tn_le c (dly (bt (c.1 2)) (hd c)) k lt hr.2
            obtain ⟨r2, s1, s2⟩ := part_s (x := tnS c (dly (bt (c.1 2)) (hd c)) k lt t) (by omega) (by omega) (lit01 q hq)
            rw [runs_c2 h1 h2 e k rfl hk (by rw [hz.2.1 2 (by omega) (by omega) (by omega)]) (va c k) a1 a2 d1 (tenths_c hW hz.2.2.1 hk d2 hb _ rfl hlt t) s1, runs_m2 g1 g2 g3 f (leaves_m hW hy) t1 s2]
            exact ⟨_, _, _, rfl, rfl, Inv_of h (hz.cm hW hf) (flv_ms hms)⟩
          · exact absurd hg hn
        · rcases ref_m hW hR hP with ⟨hn, -⟩ | ⟨-, y, f, hms⟩
          · exact absurd hn hg
          · unfold fX6_runs fX7_runs
            rw [if_neg h1, if_neg h2, if_neg g1, if_neg g2, if_neg g3, e, f, Option.bind_some, Option.bind_some, if_pos rfl, if_neg ((show ¬ (1 : Int32) = 0 by decide) : ¬ ((1 : Int32), y).1 = 0)]
            exact ⟨_, _, _, rfl, rfl, Inv_of h hz hms⟩
      · have h2 : fX6_areRunners l t q = 0 := (runners_c l t q).mpr (fun z => hq z.2)
        have g3 : fX7_in q.toInt64 (0 : Int64) (1 : Int64) = 0 := (lq0 q).mpr hq
        unfold fX6_runs fX7_runs
        rw [if_neg h1, if_pos h2, if_neg g1, if_neg g2, if_pos g3]
        exact ⟨_, _, _, rfl, rfl, h⟩
    · have h2 : fX6_areRunners l t q = 0 := (runners_c l t q).mpr (fun z => hr z.1)
      have g2 : fX7_isRunning l t = 0 := (running_m l t).mpr hr
      unfold fX6_runs fX7_runs
      rw [if_neg h1, if_pos h2, if_neg g1, if_pos g2]
      exact ⟨_, _, _, rfl, rfl, h⟩
  · unfold fX6_runs fX7_runs
    rw [if_pos ((pc0 c p).mpr hp), if_pos ((pm0 hR p).mpr hp)]
    exact ⟨_, _, _, rfl, rfl, h⟩
