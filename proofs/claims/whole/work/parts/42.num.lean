/-! numbers of the machine as whole numbers (the first ones out of the kit's COUNTS) -/
theorem fb_rng (x : Int32) : -2147483648 ≤ x.toInt ∧ x.toInt < 2147483648 := by
  have h1 := Int32.le_toInt x
  have h2 := Int32.toInt_lt x
  omega
theorem fb_bmod {z : Int} (h1 : -2147483648 ≤ z) (h2 : z < 2147483648) : z.bmod (2 ^ 32) = z := by
  rw [Int.bmod_eq_of_le (by omega) (by omega)]
theorem fb_addI {x y : Int32} (h1 : -2147483648 ≤ x.toInt + y.toInt) (h2 : x.toInt + y.toInt < 2147483648) : (x + y).toInt = x.toInt + y.toInt := by
  rw [Int32.toInt_add, fb_bmod h1 h2]
theorem fb_subI {x y : Int32} (h1 : -2147483648 ≤ x.toInt - y.toInt) (h2 : x.toInt - y.toInt < 2147483648) : (x - y).toInt = x.toInt - y.toInt := by
  rw [Int32.toInt_sub, fb_bmod h1 h2]
theorem fb_mulI {x y : Int32} (h1 : -2147483648 ≤ x.toInt * y.toInt) (h2 : x.toInt * y.toInt < 2147483648) : (x * y).toInt = x.toInt * y.toInt := by
  rw [Int32.toInt_mul, fb_bmod h1 h2]
theorem fb_negI {x : Int32} (h : x.toInt ≠ -2147483648) : (-x).toInt = -x.toInt := by
  have := fb_rng x
  rw [Int32.toInt_neg, fb_bmod (by omega) (by omega)]
theorem fb_ofI {z : Int} (h1 : -2147483648 ≤ z) (h2 : z < 2147483648) : (Int32.ofInt z).toInt = z := by
  rw [Int32.toInt_ofInt, fb_bmod h1 h2]
theorem fb_rngL (x : Int64) : -9223372036854775808 ≤ x.toInt ∧ x.toInt < 9223372036854775808 := by
  have h1 := Int64.le_toInt x
  have h2 := Int64.toInt_lt x
  omega
theorem fb_bmodL {z : Int} (h1 : -9223372036854775808 ≤ z) (h2 : z < 9223372036854775808) : z.bmod (2 ^ 64) = z := by
  rw [Int.bmod_eq_of_le (by omega) (by omega)]
theorem fb_addL {x y : Int64} (h1 : -9223372036854775808 ≤ x.toInt + y.toInt) (h2 : x.toInt + y.toInt < 9223372036854775808) : (x + y).toInt = x.toInt + y.toInt := by
  rw [Int64.toInt_add, fb_bmodL h1 h2]
theorem fb_subL {x y : Int64} (h1 : -9223372036854775808 ≤ x.toInt - y.toInt) (h2 : x.toInt - y.toInt < 9223372036854775808) : (x - y).toInt = x.toInt - y.toInt := by
  rw [Int64.toInt_sub, fb_bmodL h1 h2]
theorem fb_mulL {x y : Int64} (h1 : -9223372036854775808 ≤ x.toInt * y.toInt) (h2 : x.toInt * y.toInt < 9223372036854775808) : (x * y).toInt = x.toInt * y.toInt := by
  rw [Int64.toInt_mul, fb_bmodL h1 h2]
theorem iI_t {z : Int} (h1 : -1000000000 ≤ z) (h2 : z ≤ 1000000000) : (iI z).toInt = z := fb_ofI (by omega) (by omega)
theorem nI_t {k : Nat} (h : k < 1000) : (nI k).toInt = (k : Int) := nI_toInt (by omega)
theorem i2l_t (x : Int32) : x.toInt64.toInt = x.toInt := Int32.toInt_toInt64 x
theorem l_ext {x y : Int64} (h : x.toInt = y.toInt) : x = y := Int64.toInt_inj.mp h
theorem i_ext {x y : Int32} (h : x.toInt = y.toInt) : x = y := Int32.toInt_inj.mp h
theorem l_neg {x : Int64} (h : x.toInt ≠ -9223372036854775808) : (-x).toInt = -x.toInt := by
  have := fb_rngL x
  rw [Int64.toInt_neg, fb_bmodL (by omega) (by omega)]
theorem l_div (x y : Int64) (h : y.toInt ≠ -1) : (x / y).toInt = x.toInt.tdiv y.toInt := by
  rw [Int64.toInt_div]
  have hx := fb_rngL x
  have hy := fb_rngL y
  refine fb_bmodL ?_ ?_
  · by_cases e : y.toInt = 0
    · rw [e, Int.tdiv_zero]; omega
    · have h1 : (x.toInt.tdiv y.toInt).natAbs = x.toInt.natAbs / y.toInt.natAbs := Int.natAbs_tdiv _ _
      have h2 : x.toInt.natAbs / y.toInt.natAbs ≤ x.toInt.natAbs := Nat.div_le_self _ _
      omega
  · by_cases e : y.toInt = 0
    · rw [e, Int.tdiv_zero]; omega
    · have h1 : (x.toInt.tdiv y.toInt).natAbs = x.toInt.natAbs / y.toInt.natAbs := Int.natAbs_tdiv _ _
      by_cases e2 : y.toInt.natAbs = 1
      · have : y.toInt = 1 := by omega
        rw [this, Int.tdiv_one]; omega
      · have h2 : x.toInt.natAbs / y.toInt.natAbs < 9223372036854775808 := by
          have : x.toInt.natAbs / y.toInt.natAbs ≤ x.toInt.natAbs / 2 := Nat.div_le_div_left (by omega) (by omega)
          omega
        omega
/-- an exact division of a difference of products, whatever the products do -/
theorem l_exact {p r t q w : Int64} {z : Int} (he : p.toInt * r.toInt - t.toInt * q.toInt = w.toInt * z) (hw : 0 < w.toInt) (h1 : -9223372036854775808 ≤ w.toInt * z) (h2 : w.toInt * z < 9223372036854775808) : ((p * r - t * q) / w).toInt = z := by
  have e : (p * r - t * q).toInt = w.toInt * z := by
    rw [Int64.toInt_sub, Int64.toInt_mul, Int64.toInt_mul]
    have e9 : ((p.toInt * r.toInt).bmod (2 ^ 64) - (t.toInt * q.toInt).bmod (2 ^ 64)).bmod (2 ^ 64) = (p.toInt * r.toInt - t.toInt * q.toInt).bmod (2 ^ 64) := by simp
    rw [e9, he]
    exact fb_bmodL h1 h2
  rw [l_div _ _ (by omega), e, Int.mul_tdiv_cancel_left _ (by omega)]
theorem l_lt {x y : Int64} : x < y ↔ x.toInt < y.toInt := Int64.lt_iff_toInt_lt
theorem l_le {x y : Int64} : x ≤ y ↔ x.toInt ≤ y.toInt := Int64.le_iff_toInt_le
theorem i_lt {x y : Int32} : x < y ↔ x.toInt < y.toInt := Int32.lt_iff_toInt_lt
theorem i_le {x y : Int32} : x ≤ y ↔ x.toInt ≤ y.toInt := Int32.le_iff_toInt_le
/-! sums of whole numbers -/
def si (f : Nat → Int) : Nat → Int
  | 0 => 0
  | n + 1 => si f n + f n
theorem si_cast (f : Nat → Int) : ∀ n, ((si f n : Int) : Rat) = sm (fun k => ((f k : Int) : Rat)) n
  | 0 => rfl
  | n + 1 => by rw [si, sm, Rat.intCast_add, si_cast f n]
theorem si_congr {f g : Nat → Int} : ∀ {n : Nat}, (∀ k, k < n → f k = g k) → si f n = si g n
  | 0, _ => rfl
  | n + 1, h => by rw [si, si, si_congr (fun k hk => h k (Nat.lt_succ_of_lt hk)), h n (Nat.lt_succ_self n)]
theorem si_bd {f : Nat → Int} {c : Int} : ∀ {n : Nat}, (∀ k, k < n → -c ≤ f k ∧ f k ≤ c) → -(n * c) ≤ si f n ∧ si f n ≤ n * c
  | 0, _ => by simp [si]
  | n + 1, h => by
    have h1 := si_bd (fun k hk => h k (Nat.lt_succ_of_lt hk))
    have h2 := h n (Nat.lt_succ_self n)
    rw [si]
    have : ((n + 1 : Nat) : Int) * c = n * c + c := by push_cast; rw [Int.add_mul]; omega
    omega
theorem rat_le {x y : Int} (h : (x : Rat) ≤ (y : Rat)) : x ≤ y := by exact_mod_cast h
theorem rat_lt {x y : Int} (h : (x : Rat) < (y : Rat)) : x < y := by exact_mod_cast h
theorem rat_eq {x y : Int} (h : (x : Rat) = (y : Rat)) : x = y := by exact_mod_cast h
