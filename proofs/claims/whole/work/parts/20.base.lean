/-! numbers, bits, loops: the pure part begins -/
def bt (x : Int32) (i : Nat) : Bool := x.toBitVec.getLsbD i
theorem b_ext {x y : Int32} (h : ∀ i, i < 32 → bt x i = bt y i) : x = y := Int32.toBitVec_inj.mp (BitVec.eq_of_getLsbD_eq (fun i hi => h i hi))
theorem b_or (x y : Int32) (i : Nat) : bt (x ||| y) i = (bt x i || bt y i) := by unfold bt; rw [Int32.toBitVec_or, BitVec.getLsbD_or]
theorem b_and (x y : Int32) (i : Nat) : bt (x &&& y) i = (bt x i && bt y i) := by unfold bt; rw [Int32.toBitVec_and, BitVec.getLsbD_and]
theorem b_xor (x y : Int32) (i : Nat) : bt (x ^^^ y) i = (bt x i ^^ bt y i) := by unfold bt; rw [Int32.toBitVec_xor, BitVec.getLsbD_xor]
theorem b_big {x : Int32} {i : Nat} (h : 32 ≤ i) : bt x i = false := BitVec.getLsbD_of_ge _ _ h
theorem b_255 (i : Nat) : bt 255 i = decide (i < 8) := by
  rcases Nat.lt_or_ge i 32 with h | h
  · exact (by decide +kernel : ∀ i, i < 32 → bt 255 i = decide (i < 8)) i h
  · rw [b_big h, decide_eq_false (by omega)]
theorem b_65535 (i : Nat) : bt 65535 i = decide (i < 16) := by
  rcases Nat.lt_or_ge i 32 with h | h
  · exact (by decide +kernel : ∀ i, i < 32 → bt 65535 i = decide (i < 16)) i h
  · rw [b_big h, decide_eq_false (by omega)]
theorem b_m1 : ∀ i, i < 32 → bt (-1) i = true := by decide +kernel
theorem b_0 (i : Nat) : bt 0 i = false := BitVec.getLsbD_zero
theorem s_l : ∀ n, n < 32 → ((nI n &&& 31).toBitVec.smod 32).toNat = n := by decide +kernel
theorem s_u : ∀ n, n < 32 → (((nI n).toUInt32 &&& Int32.toUInt32 31).toBitVec % 32).toNat = n := by decide +kernel
theorem b_shl (n : Nat) (hn : n < 32) (x : Int32) {i : Nat} (hi : i < 32) : bt (x <<< (nI n &&& 31)) i = (decide (n ≤ i) && bt x (i - n)) := by
  unfold bt
  rw [Int32.toBitVec_shiftLeft]
  show (x.toBitVec <<< ((nI n &&& 31).toBitVec.smod 32).toNat).getLsbD i = _
  rw [s_l n hn, BitVec.getLsbD_shiftLeft]
  rcases Nat.lt_or_ge i n with h | h
  · simp [h, Nat.not_le.mpr h]
  · simp [hi, h, Nat.not_lt.mpr h]
theorem b_ushr (n : Nat) (hn : n < 32) (x : Int32) (i : Nat) : bt ((x.toUInt32 >>> ((nI n).toUInt32 &&& Int32.toUInt32 31)).toInt32) i = bt x (n + i) := by
  show (x.toUInt32 >>> ((nI n).toUInt32 &&& Int32.toUInt32 31)).toBitVec.getLsbD i = x.toUInt32.toBitVec.getLsbD (n + i)
  rw [UInt32.toBitVec_shiftRight]
  show (x.toUInt32.toBitVec >>> (((nI n).toUInt32 &&& Int32.toUInt32 31).toBitVec % 32).toNat).getLsbD i = _
  rw [s_u n hn, BitVec.getLsbD_ushiftRight]
theorem b_sshr (n : Nat) (hn : n < 32) (x : Int32) {i : Nat} (hi : i < 32) : bt (x >>> (nI n &&& 31)) i = if n + i < 32 then bt x (n + i) else bt x 31 := by
  unfold bt
  rw [Int32.toBitVec_shiftRight]
  show (x.toBitVec.sshiftRight ((nI n &&& 31).toBitVec.smod 32).toNat).getLsbD i = _
  rw [s_l n hn, BitVec.getLsbD_sshiftRight, BitVec.msb_eq_getLsbD_last]
  simp [hi]
theorem b_shl8 (x : Int32) {i : Nat} (hi : i < 32) : bt (x <<< ((8 : Int32) &&& 31)) i = (decide (8 ≤ i) && bt x (i - 8)) := b_shl 8 (by omega) x hi
theorem b_shl16 (x : Int32) {i : Nat} (hi : i < 32) : bt (x <<< ((16 : Int32) &&& 31)) i = (decide (16 ≤ i) && bt x (i - 16)) := b_shl 16 (by omega) x hi
theorem b_shl24 (x : Int32) {i : Nat} (hi : i < 32) : bt (x <<< ((24 : Int32) &&& 31)) i = (decide (24 ≤ i) && bt x (i - 24)) := b_shl 24 (by omega) x hi
theorem b_sshr8 (x : Int32) {i : Nat} (hi : i < 32) : bt (x >>> ((8 : Int32) &&& 31)) i = if 8 + i < 32 then bt x (8 + i) else bt x 31 := b_sshr 8 (by omega) x hi
theorem b_1 : ∀ i, i < 32 → bt 1 i = decide (i = 0) := by decide +kernel
theorem b_one {p i : Nat} (hp : p < 32) (hi : i < 32) : bt ((1 : Int32) <<< (nI p &&& 31)) i = decide (i = p) := by
  rw [b_shl p hp 1 hi]
  by_cases h : p ≤ i
  · rw [b_1 (i - p) (by omega)]
    by_cases h2 : i = p
    · subst h2; simp
    · simp [h, h2, show ¬ (i - p = 0) by omega]
  · simp [h, show ¬ i = p by omega]
theorem tb_and1 (a : Int32) {p : Nat} (hp : p < 32) : ((a >>> (nI p &&& 31)) &&& 1) = if bt a p then 1 else 0 := by
  apply b_ext
  intro i hi
  rw [b_and, b_sshr p hp a hi, b_1 i hi]
  by_cases h0 : i = 0
  · subst h0
    cases hb : bt a p with
    | true => simp [hp, hb]; rfl
    | false => simp [hp, hb]; rfl
  · cases hb : bt a p with
    | true => simp [h0, b_1 i hi]
    | false => simp [h0, b_0]
theorem tb1 (a : Int32) {p : Nat} (hp : p < 32) : ((a >>> (nI p &&& 31)) &&& 1) = 1 ↔ bt a p = true := by
  rw [tb_and1 a hp]
  cases bt a p <;> simp <;> decide
theorem tb0 (a : Int32) {p : Nat} (hp : p < 32) : ((a >>> (nI p &&& 31)) &&& 1) = 0 ↔ bt a p = false := by
  rw [tb_and1 a hp]
  cases bt a p <;> simp <;> decide
/-- a fold from 0 up -/
def lp {α : Type} (n : Nat) (f : Nat → α → α) (a : α) : α := match n with
  | 0 => a
  | n + 1 => f n (lp n f a)
theorem lp_s {α : Type} (n : Nat) (f : Nat → α → α) (a : α) : lp (n + 1) f a = f n (lp n f a) := rfl
theorem lp_congr {α : Type} {n : Nat} {f g : Nat → α → α} {a : α} (h : ∀ i x, i < n → f i x = g i x) : lp n f a = lp n g a := by
  induction n with
  | zero => rfl
  | succ n ih => rw [lp_s, lp_s, ih (fun i x hi => h i x (by omega)), h n _ (by omega)]
/-- a counting loop: each turn one step, out at N -/
theorem for_up {σ R : Type} (L : Nat → Nat → σ → R) (N : Nat) (step : Nat → σ → σ) (K : σ → R) (Iv : Nat → σ → Prop)
    (hs : ∀ n i s, i < N → Iv i s → L (n + 1) i s = L n (i + 1) (step i s)) (hK : ∀ n s, Iv N s → L (n + 1) N s = K s) (hI : ∀ i s, i < N → Iv i s → Iv (i + 1) (step i s)) :
    ∀ (n : Nat) (s : σ), N < n → Iv 0 s → L n 0 s = K (lp N step s) ∧ Iv N (lp N step s) := by
  have key : ∀ (j i n : Nat) (s0 : σ), i + j = N → j < n → Iv i (lp i step s0) → L n i (lp i step s0) = K (lp N step s0) ∧ Iv N (lp N step s0) := by
    intro j
    induction j with
    | zero =>
      intro i n s0 h1 h2 h3
      obtain rfl : i = N := by omega
      obtain ⟨n, rfl⟩ : ∃ k, n = k + 1 := ⟨n - 1, by omega⟩
      exact ⟨hK n _ h3, h3⟩
    | succ j ih =>
      intro i n s0 h1 h2 h3
      obtain ⟨n, rfl⟩ : ∃ k, n = k + 1 := ⟨n - 1, by omega⟩
      rw [hs n i _ (by omega) h3, ← lp_s i step s0]
      exact ih (i + 1) n s0 (by omega) (by omega) (hI i _ (by omega) h3)
  intro n s hn h0
  exact key N 0 n s (by omega) hn h0
theorem for_up0 {σ R : Type} (L : Nat → Nat → σ → R) (N : Nat) (step : Nat → σ → σ) (K : σ → R)
    (hs : ∀ n i s, i < N → L (n + 1) i s = L n (i + 1) (step i s)) (hK : ∀ n s, L (n + 1) N s = K s) (n : Nat) (s : σ) (hn : N < n) : L n 0 s = K (lp N step s) :=
  (for_up L N step K (fun _ _ => True) (fun n i s h _ => hs n i s h) (fun n s _ => hK n s) (fun _ _ _ _ => trivial) n s hn trivial).1
theorem fu_big {n : Nat} (h : n ≤ 900000) : n < fu := Nat.lt_of_le_of_lt h (by unfold fu; decide)
theorem ald_n {β : Type} {N i : Nat} {f : Nat → Int32} {K : Int32 → Option β} (h : i < N) (hN : N < 2 ^ 31) : ald N f (nI i) K = K (f i) := by
  unfold ald
  have e : (nI i).toNatClampNeg = i := nI_clamp (by omega)
  rw [if_neg, e]
  rw [e]
  rintro (h1 | h1)
  · exact nI_pos (by omega) h1
  · omega
theorem ckb_n {β : Type} {N i : Nat} {K : Option β} (h : i < N) (hN : N < 2 ^ 31) : ckb N (nI i) K = K := by
  unfold ckb
  have e : (nI i).toNatClampNeg = i := nI_clamp (by omega)
  rw [if_neg]
  rw [e]
  rintro (h1 | h1)
  · exact nI_pos (by omega) h1
  · omega
theorem jn_e {α β : Type} (B : α) (F : α → β) : jn B F = F B := rfl
theorem nle_n {N i : Nat} (h : i < N) (hN : N < 2 ^ 31) : ¬ nI N ≤ nI i := nI_ge h hN
theorem inc_n (i : Nat) : nI i + (1 : Int32) = nI (i + 1) := nI_1 i
