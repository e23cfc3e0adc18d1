def iI (a : Int) : Int32 := Int32.ofInt a
theorem iI_ti {a : Int} (h1 : -2147483648 ≤ a) (h2 : a < 2147483648) : (iI a).toInt = a := by
  unfold iI
  rw [Int32.toInt_ofInt, show Int32.size = 4294967296 from rfl]
  exact Int.bmod_eq_of_le (by omega) (by omega)
theorem iI_add (a b : Int) : iI a + iI b = iI (a + b) := (Int32.ofInt_add a b).symm
theorem iI_mul (a b : Int) : iI a * iI b = iI (a * b) := (Int32.ofInt_mul a b).symm
theorem iI_of {x : Int32} {a : Int} (h : x.toInt = a) : x = iI a := by
  rw [← h]
  exact (Int32.ofInt_toInt x).symm
theorem nI_iI (n : Nat) : nI n = iI n := (Int32.ofInt_eq_ofNat).symm
theorem iI_le {a b : Int} (h1 : -2147483648 ≤ a) (h2 : a < 2147483648) (h3 : -2147483648 ≤ b) (h4 : b < 2147483648) : iI a ≤ iI b ↔ a ≤ b := by
  rw [i32_le, iI_ti h1 h2, iI_ti h3 h4]
theorem may_n {z : SS} {sh : Int32} {s u B E : Nat} (hs : s < 6) (hu : u ≤ B) (hB : B ≤ 10) (hE : E ≤ 9) (z2 : z.1 2 = sh) (z4 : z.1 4 = nI E) : fX5_mayHold z (nI s) (nI B - nI u) = nI (mr (bt sh) E B u s) := by
  have e : nI B - nI u = nI (B - u) := by
    have := nI_subn (B - u) u
    rw [Nat.sub_add_cancel hu] at this
    exact this
  unfold fX5_mayHold mr
  rw [e, z4]
  cases hb : bt sh s with
  | true =>
    rw [if_neg (fun q => by have := (closed_c z (show s < 32 by omega)).mp q; rw [z2, hb] at this; cases this)]
    rfl
  | false =>
    rw [if_pos ((closed_c z (show s < 32 by omega)).mpr (by rw [z2]; exact hb))]
    show (if nI (B - u) < nI E then nI (B - u) else nI E) = nI (min E (B - u))
    by_cases hc : B - u < E
    · rw [if_pos (nI_lt hc (by omega)), Nat.min_eq_right (by omega)]
    · rw [if_neg (fun q => hc ((nI_ltI (by omega) (by omega)).mp q)), Nat.min_eq_left (by omega)]
