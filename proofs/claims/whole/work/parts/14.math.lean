/-! Math, places of the store, switches -/
theorem g_lt {γ : Nat} (h : γ < 9) : 24 + 7 * γ < nW := by show _ < 106; omega
theorem ga_lt {γ r : Nat} (h : γ < 9) (hr : r < 7) : 24 + 7 * γ + r < nW := by show _ < 106; omega
theorem row_lt {k : Nat} (h : k < 6) : 9 + 1 * (k + 1) < nW := by show _ < 106; omega
theorem ib_lt {i : Int32} {n : Nat} (h : ib i n = true) : i.toNatClampNeg < n := Nat.not_le.mp fun q => ib_in h (Or.inr q)
theorem kp_lt {i : Int32} (h : ib i 8 = true) : i.toNatClampNeg + 1 < 9 := Nat.succ_lt_succ (ib_lt h)
theorem tab_out {x : Int32} (n : Nat) (hn : n < 2 ^ 31) (h : ∀ k : Nat, k ≤ n → ¬ x = nI k) : x.toInt < 0 ∨ (n : Int) < x.toInt := by
  rcases Int.lt_or_le x.toInt 0 with q | q
  · exact Or.inl q
  · refine Or.inr (Int.not_le.mp fun q2 => ?_)
    have e : x.toInt.toNat ≤ n := by omega
    refine h x.toInt.toNat e ?_
    refine Int32.toInt_inj.mp ?_
    rw [nI_toInt (by omega)]
    omega
section RW
variable {Γ : Cxt} {own : String} {cc : ByteArray} {nL fr lo pc idx : Nat} {rt : Option FieldType} {L : List (Option Value)} {st : List Value} {σ : St}
theorem s_mmax {x y : Int32} (G : OK Γ own cc nL rt fr lo) (hd : decode cc pc = .ok (.invokestatic idx, 3)) (hl : Cond.methodLink own idx Lib.Math.max.name ∈ lw_g) (hcat : (st.map fun v => v.category).sum ≤ 8) (hro : 1 ≤ fr ∧ 23 ≤ lo) (k : WW Γ (pc + 3) L (.int (if x < y then y else x) :: st) σ) : WW Γ pc L (.int y :: .int x :: st) σ := by
  obtain ⟨p, l, e, R, s, m, args, below, meth, c, D, ad, cA, Q, nc, ns⟩ := Γ
  obtain ⟨hx, hb, hr, hml, hown, hts, hN, hK, hKA, hI, hlk, hStr, hR⟩ := G
  intro H locs ls hP hS hL
  have h1 : (Cond.static Lib.Math.max.name).before args s = true := hts _ (in_g (List.mem_of_getElem? (i := 552) (by decide +kernel)) rfl)
  have h2 : (Cond.initialized "java/lang/Math").before args s = true := hts _ (in_g (List.mem_of_getElem? (i := 72) (by decide +kernel)) rfl)
  have h3 : (Cond.code Lib.Math.max.name Lib.Math.max.code 2 (some .int)).before args s = true := hts _ (in_g (List.mem_of_getElem? (i := 553) (by decide +kernel)) rfl)
  exact va_mmax hx hb hL.1.symm hown (hts _ hl) h1 h2 h3 (Nat.le_trans hro.1 hR.1) (by rw [cats]; have := hR.2.1; omega) hR.2.2.1 hR.2.2.2 hd (k H locs ls hP hS hL)
theorem s_mmin {x y : Int32} (G : OK Γ own cc nL rt fr lo) (hd : decode cc pc = .ok (.invokestatic idx, 3)) (hl : Cond.methodLink own idx Lib.Math.min.name ∈ lw_g) (hcat : (st.map fun v => v.category).sum ≤ 8) (hro : 1 ≤ fr ∧ 23 ≤ lo) (k : WW Γ (pc + 3) L (.int (if y < x then y else x) :: st) σ) : WW Γ pc L (.int y :: .int x :: st) σ := by
  obtain ⟨p, l, e, R, s, m, args, below, meth, c, D, ad, cA, Q, nc, ns⟩ := Γ
  obtain ⟨hx, hb, hr, hml, hown, hts, hN, hK, hKA, hI, hlk, hStr, hR⟩ := G
  intro H locs ls hP hS hL
  have h1 : (Cond.static Lib.Math.min.name).before args s = true := hts _ (in_g (List.mem_of_getElem? (i := 571) (by decide +kernel)) rfl)
  have h2 : (Cond.initialized "java/lang/Math").before args s = true := hts _ (in_g (List.mem_of_getElem? (i := 72) (by decide +kernel)) rfl)
  have h3 : (Cond.code Lib.Math.min.name Lib.Math.min.code 2 (some .int)).before args s = true := hts _ (in_g (List.mem_of_getElem? (i := 572) (by decide +kernel)) rfl)
  exact va_mmin hx hb hL.1.symm hown (hts _ hl) h1 h2 h3 (Nat.le_trans hro.1 hR.1) (by rw [cats]; have := hR.2.1; omega) hR.2.2.1 hR.2.2.2 hd (k H locs ls hP hS hL)
theorem s_mminL {x y : Int64} (G : OK Γ own cc nL rt fr lo) (hd : decode cc pc = .ok (.invokestatic idx, 3)) (hl : Cond.methodLink own idx Lib.MathLoose.min_long.x ∈ lw_g) (hcat : (st.map fun v => v.category).sum ≤ 8) (hro : 1 ≤ fr ∧ 23 ≤ lo) (k : WW Γ (pc + 3) L (.long (if y < x then y else x) :: st) σ) : WW Γ pc L (.long y :: .long x :: st) σ := by
  obtain ⟨p, l, e, R, s, m, args, below, meth, c, D, ad, cA, Q, nc, ns⟩ := Γ
  obtain ⟨hx, hb, hr, hml, hown, hts, hN, hK, hKA, hI, hlk, hStr, hR⟩ := G
  intro H locs ls hP hS hL
  have h1 : (Cond.static Lib.MathLoose.min_long.x).before args s = true := hts _ (in_g (List.mem_of_getElem? (i := 568) (by decide +kernel)) rfl)
  have h2 : (Cond.initialized "java/lang/Math").before args s = true := hts _ (in_g (List.mem_of_getElem? (i := 72) (by decide +kernel)) rfl)
  have h3 : (Cond.code Lib.MathLoose.min_long.x Lib.MathLoose.min_long.code 4 (some .long)).before args s = true := hts _ (in_g (List.mem_of_getElem? (i := 569) (by decide +kernel)) rfl)
  exact va_mmin_long hx hb hL.1.symm hown (hts _ hl) h1 h2 h3 (Nat.le_trans hro.1 hR.1) (by rw [cats]; have := hR.2.1; omega) hR.2.2.1 hR.2.2.2 hd (k H locs ls hP hS hL)
theorem s_mabsL {x : Int64} (G : OK Γ own cc nL rt fr lo) (hd : decode cc pc = .ok (.invokestatic idx, 3)) (hl : Cond.methodLink own idx Lib.MathLoose.abs_long.x ∈ lw_g) (hcat : (st.map fun v => v.category).sum ≤ 8) (hro : 1 ≤ fr ∧ 23 ≤ lo) (k : WW Γ (pc + 3) L (.long (if 0 < x then x else -x) :: st) σ) : WW Γ pc L (.long x :: st) σ := by
  obtain ⟨p, l, e, R, s, m, args, below, meth, c, D, ad, cA, Q, nc, ns⟩ := Γ
  obtain ⟨hx, hb, hr, hml, hown, hts, hN, hK, hKA, hI, hlk, hStr, hR⟩ := G
  intro H locs ls hP hS hL
  have h1 : (Cond.static Lib.MathLoose.abs_long.x).before args s = true := hts _ (in_g (List.mem_of_getElem? (i := 449) (by decide +kernel)) rfl)
  have h2 : (Cond.initialized "java/lang/Math").before args s = true := hts _ (in_g (List.mem_of_getElem? (i := 72) (by decide +kernel)) rfl)
  have h3 : (Cond.code Lib.MathLoose.abs_long.x Lib.MathLoose.abs_long.code 2 (some .long)).before args s = true := hts _ (in_g (List.mem_of_getElem? (i := 450) (by decide +kernel)) rfl)
  exact va_mabs_long hx hb hL.1.symm hown (hts _ hl) h1 h2 h3 (Nat.le_trans hro.1 hR.1) (by rw [cats]; have := hR.2.1; omega) hR.2.2.1 hR.2.2.2 hd (k H locs ls hP hS hL)
end RW
theorem lkJ_X5_335 : Cond.methodLink RX5 335 Lib.MathLoose.abs_long.x ∈ lw_g := in_g (List.mem_of_getElem? (i := 448) (by decide +kernel)) rfl
theorem lkJ_X4_105 : Cond.methodLink RX4 105 Lib.MathLoose.abs_long.x ∈ lw_g := in_g (List.mem_of_getElem? (i := 505) (by decide +kernel)) rfl
theorem lkJ_X5_220 : Cond.methodLink RX5 220 Lib.Math.max.name ∈ lw_g := in_g (List.mem_of_getElem? (i := 551) (by decide +kernel)) rfl
theorem lkJ_X4_128 : Cond.methodLink RX4 128 Lib.MathLoose.min_long.x ∈ lw_g := in_g (List.mem_of_getElem? (i := 567) (by decide +kernel)) rfl
theorem lkJ_X5_234 : Cond.methodLink RX5 234 Lib.Math.min.name ∈ lw_g := in_g (List.mem_of_getElem? (i := 570) (by decide +kernel)) rfl
