/-! lowest terms -/
/-- n / d is ρ in lowest terms -/
def LT (ρ : Rat) (n d : Int) : Prop := 0 < d ∧ Int.gcd n d = 1 ∧ (n : Rat) = ρ * (d : Rat)
theorem LT.one {ρ : Rat} {n d n' d' : Int} (h : LT ρ n d) (h' : LT ρ n' d') : n = n' ∧ d = d' := by
  obtain ⟨p, g, e⟩ := h
  obtain ⟨p', g', e'⟩ := h'
  have x : n * d' = n' * d := by
    apply rat_eq
    rw [Rat.intCast_mul, Rat.intCast_mul, e, e']
    grind
  have y : n.natAbs * d'.natAbs = n'.natAbs * d.natAbs := by rw [← Int.natAbs_mul, ← Int.natAbs_mul, x]
  have c : Nat.Coprime d.natAbs n.natAbs := Nat.Coprime.symm g
  have c' : Nat.Coprime d'.natAbs n'.natAbs := Nat.Coprime.symm g'
  have d1 : d.natAbs ∣ d'.natAbs := c.dvd_of_dvd_mul_left ⟨n'.natAbs, by rw [y, Nat.mul_comm]⟩
  have d2 : d'.natAbs ∣ d.natAbs := c'.dvd_of_dvd_mul_left ⟨n.natAbs, by rw [← y, Nat.mul_comm]⟩
  have e1 : d.natAbs = d'.natAbs := Nat.dvd_antisymm d1 d2
  have e2 : d = d' := by omega
  refine ⟨?_, e2⟩
  rw [e2] at x
  exact Int.eq_of_mul_eq_mul_right (by omega) x
theorem LT.of {p q : Int} (hq : 0 < q) : LT ((p : Rat) / (q : Rat)) (p / (Int.gcd p q : Int)) (q / (Int.gcd p q : Int)) := by
  have g0 : Int.gcd p q ≠ 0 := fun e => by have := (Int.gcd_eq_zero_iff.mp e).2; omega
  have gp : 0 < (Int.gcd p q : Int) := by omega
  obtain ⟨a, ha⟩ := Int.gcd_dvd_left (a := p) (b := q)
  obtain ⟨b, hb⟩ := Int.gcd_dvd_right (a := p) (b := q)
  generalize hg : Int.gcd p q = g at *
  have ea : p / (g : Int) = a := by rw [ha]; exact Int.mul_ediv_cancel_left a (by omega)
  have eb : q / (g : Int) = b := by rw [hb]; exact Int.mul_ediv_cancel_left b (by omega)
  rw [ea, eb]
  have bp : 0 < b := by
    rcases Int.lt_or_le 0 b with w | w
    · exact w
    · have : (g : Int) * b ≤ 0 := Int.mul_nonpos_of_nonneg_of_nonpos (by omega) w
      omega
  refine ⟨bp, ?_, ?_⟩
  · have q1 : Int.gcd ((g : Int) * a) ((g : Int) * b) = (g : Int).natAbs * Int.gcd a b := Int.gcd_mul_left ..
    rw [← ha, ← hb, hg, Int.natAbs_natCast] at q1
    exact Nat.eq_of_mul_eq_mul_left (show 0 < g by omega) (by omega)
  · have qn : ((q : Int) : Rat) ≠ 0 := by
      intro e
      have : q = 0 := rat_eq (y := 0) e
      omega
    have e1 : p * b = q * a := by rw [ha, hb]; grind
    have e2 : ((p : Int) : Rat) * (b : Rat) = (q : Rat) * (a : Rat) := by rw [← Rat.intCast_mul, e1, Rat.intCast_mul]
    grind
theorem LT.eq {ρ τ : Rat} {n d : Int} (h : LT ρ n d) (e : ρ = τ) : LT τ n d := e ▸ h
/-- a step of Euclid -/
theorem l_mod {x y : Int64} (hx : 0 ≤ x.toInt) (hy : 0 < y.toInt) : (x - x / y * y).toInt = x.toInt % y.toInt := by
  have rx := fb_rngL x
  have ry := fb_rngL y
  have e1 : (x / y).toInt = x.toInt / y.toInt := by rw [l_div _ _ (by omega), Int.tdiv_eq_ediv_of_nonneg hx]
  have m := Int.mul_ediv_add_emod x.toInt y.toInt
  have m0 := Int.emod_nonneg x.toInt (show y.toInt ≠ 0 by omega)
  have m1 := Int.emod_lt_of_pos x.toInt hy
  have d0 : 0 ≤ x.toInt / y.toInt := Int.ediv_nonneg hx (by omega)
  have d1 : 0 ≤ y.toInt * (x.toInt / y.toInt) := Int.mul_nonneg (by omega) d0
  have e2 : (x / y * y).toInt = y.toInt * (x.toInt / y.toInt) := by
    rw [fb_mulL (by rw [e1, Int.mul_comm]; omega) (by rw [e1, Int.mul_comm]; omega), e1, Int.mul_comm]
  rw [fb_subL (by rw [e2]; omega) (by rw [e2]; omega), e2]
  omega
theorem eu_step {a b m : Nat} (hb : 0 < b) (hab : b ≤ a) (h : a * b < 2 ^ (m + 1)) : b * (a % b) < 2 ^ m := by
  have h1 : 2 * (a % b) ≤ a := by
    have q := Nat.div_add_mod a b
    have q2 := Nat.mod_lt a hb
    have q3 : 1 ≤ a / b := Nat.div_pos hab hb
    have q4 : b ≤ b * (a / b) := Nat.le_mul_of_pos_right b q3
    omega
  have h2 : b * (2 * (a % b)) ≤ b * a := Nat.mul_le_mul_left b h1
  have e1 : b * (2 * (a % b)) = 2 * (b * (a % b)) := by grind
  have e2 : b * a = a * b := Nat.mul_comm b a
  rw [Nat.pow_succ] at h
  omega
theorem x_gcd {K : Int64 → St → Option (Int64 × St)} {Q : Int64 × St → Prop} {σ : St} {g : Nat} (hK : ∀ z : Int64, z.toInt = (g : Int) → Ho (K z σ) Q) :
    ∀ (m i fuel : Nat) (x y : Int64) (a b : Nat), x.toInt = (a : Int) → y.toInt = (b : Int) → a * b < 2 ^ m → b ≤ a → m + i < 100 → m < fuel → Nat.gcd a b = g → Ho (f_X5_commonDivisor_9 K fuel x y (nI i) σ) Q := by
  intro m
  induction m with
  | zero =>
    intro i fuel x y a b hx hy hm hab hi hf hg
    obtain ⟨fuel, rfl⟩ : ∃ f, fuel = f + 1 := ⟨fuel - 1, by omega⟩
    have b0 : b = 0 := by
      rcases Nat.eq_zero_or_pos b with w | w
      · exact w
      · have : 1 * 1 ≤ a * b := Nat.mul_le_mul (by omega) w
        omega
    subst b0
    have y0 : y = 0 := l_ext (by rw [hy]; rfl)
    rw [f_X5_commonDivisor_9]
    refine ho_f (nI_nge' (a := 100) (by omega) (by omega)) (ho_t y0 (hK x ?_))
    rw [hx, ← hg, Nat.gcd_zero_right]
  | succ m ih =>
    intro i fuel x y a b hx hy hm hab hi hf hg
    obtain ⟨fuel, rfl⟩ : ∃ f, fuel = f + 1 := ⟨fuel - 1, by omega⟩
    rw [f_X5_commonDivisor_9]
    refine ho_f (nI_nge' (a := 100) (by omega) (by omega)) (ho_if (fun c => hK x ?_) (fun c => ?_))
    · have b0 : b = 0 := by rw [c] at hy; have : (0 : Int64).toInt = 0 := rfl; omega
      rw [hx, ← hg, b0, Nat.gcd_zero_right]
    · have bp : 0 < b := by
        rcases Nat.eq_zero_or_pos b with w | w
        · exact absurd (l_ext (by rw [hy, w]; rfl)) c
        · exact w
      refine ho_chk (decide_eq_true c) (ho_nm ?_)
      rw [nI_1]
      refine ih (i + 1) fuel _ _ b (a % b) hy ?_ (eu_step bp hab hm) (Nat.le_of_lt (Nat.mod_lt a bp)) (by omega) (by omega) ?_
      · rw [l_mod (by omega) (by omega), hx, hy]; rfl
      · rw [← hg, Nat.gcd_comm a b, Nat.gcd_rec b a, Nat.gcd_comm]
theorem y_gcd {K : Int64 → St → Option (Int64 × St)} {Q : Int64 × St → Prop} {σ : St} {g : Nat} (hK : ∀ z : Int64, z.toInt = (g : Int) → Ho (K z σ) Q) :
    ∀ (m fuel : Nat) (x y : Int64) (a b : Nat), x.toInt = (a : Int) → y.toInt = (b : Int) → a * b < 2 ^ m → b ≤ a → m < fuel → Nat.gcd a b = g → Ho (f_X6_common_28 K fuel x y σ) Q := by
  intro m
  induction m with
  | zero =>
    intro fuel x y a b hx hy hm hab hf hg
    obtain ⟨fuel, rfl⟩ : ∃ f, fuel = f + 1 := ⟨fuel - 1, by omega⟩
    have b0 : b = 0 := by
      rcases Nat.eq_zero_or_pos b with w | w
      · exact w
      · have : 1 * 1 ≤ a * b := Nat.mul_le_mul (by omega) w
        omega
    subst b0
    have y0 : y = 0 := l_ext (by rw [hy]; rfl)
    rw [f_X6_common_28]
    refine ho_t y0 (hK x ?_)
    rw [hx, ← hg, Nat.gcd_zero_right]
  | succ m ih =>
    intro fuel x y a b hx hy hm hab hf hg
    obtain ⟨fuel, rfl⟩ : ∃ f, fuel = f + 1 := ⟨fuel - 1, by omega⟩
    rw [f_X6_common_28]
    refine ho_if (fun c => hK x ?_) (fun c => ?_)
    · have b0 : b = 0 := by rw [c] at hy; have : (0 : Int64).toInt = 0 := rfl; omega
      rw [hx, ← hg, b0, Nat.gcd_zero_right]
    · have bp : 0 < b := by
        rcases Nat.eq_zero_or_pos b with w | w
        · exact absurd (l_ext (by rw [hy, w]; rfl)) c
        · exact w
      refine ho_chk (decide_eq_true c) (ho_nm ?_)
      refine ih fuel _ _ b (a % b) hy ?_ (eu_step bp hab hm) (Nat.le_of_lt (Nat.mod_lt a bp)) (by omega) ?_
      · rw [l_mod (by omega) (by omega), hx, hy]; rfl
      · rw [← hg, Nat.gcd_comm a b, Nat.gcd_rec b a, Nat.gcd_comm]
theorem l_abs {x : Int64} (h : x.toInt ≠ -9223372036854775808) : (if 0 < x then x else -x).toInt = (x.toInt.natAbs : Int) := by
  have e0 : (0 : Int64).toInt = 0 := rfl
  by_cases c : 0 < x
  · rw [if_pos c]; have := l_lt.mp c; omega
  · rw [if_neg c, l_neg h]
    have : ¬ (0 : Int64).toInt < x.toInt := fun w => c (l_lt.mpr w)
    omega
/-- the class's part: lowest terms -/
theorem x_part {p q : Int64} (hp : p.toInt.natAbs < 2 ^ 62) (hq : 0 < q.toInt) (hq2 : q.toInt < 2 ^ 40) (fl : Int32) (σ : St) : Ho (f_X5_part p q fl σ) (fun r => r.2 = σ ∧ ∃ n d, LT ((p.toInt : Rat) / (q.toInt : Rat)) n d ∧ r.1.toInt = if fl = 0 then n else d) := by
  have hL := LT.of (p := p.toInt) hq
  have g0 : Int.gcd p.toInt q.toInt ≠ 0 := fun e => by have := (Int.gcd_eq_zero_iff.mp e).2; omega
  unfold f_X5_part
  have hfin : ∀ z : Int64, z.toInt = ((Int.gcd p.toInt q.toInt : Nat) : Int) → Ho (some (z, σ)) (fun r => r.2 = σ ∧ r.1.toInt = ((Int.gcd p.toInt q.toInt : Nat) : Int)) := fun z hz => ho_some ⟨rfl, hz⟩
  have habs := l_abs (x := p) (by omega)
  have gq : Nat.gcd p.toInt.natAbs q.toInt.natAbs = Int.gcd p.toInt q.toInt := rfl
  have hg : Ho (f_X5_commonDivisor (if 0 < p then p else -p) q σ) (fun r => r.2 = σ ∧ r.1.toInt = ((Int.gcd p.toInt q.toInt : Nat) : Int)) := by
    unfold f_X5_commonDivisor
    -- the first step by hand: the pair need not be in order
    rw [f_X5_commonDivisor_9]
    have qn : ¬ q = 0 := fun e => by rw [e] at hq; exact absurd hq (by decide)
    refine ho_f (by decide) (ho_f qn (ho_chk (decide_eq_true qn) (ho_nm ?_)))
    have bq : q.toInt = (q.toInt.natAbs : Int) := by omega
    rw [show (0 : Int32) + 1 = nI 1 from rfl]
    refine x_gcd hfin 81 1 999 _ _ q.toInt.natAbs (p.toInt.natAbs % q.toInt.natAbs) bq ?_ ?_ (Nat.le_of_lt (Nat.mod_lt _ (by omega))) (by omega) (by omega) ?_
    · rw [l_mod (by omega) hq, habs, bq]; rfl
    · have h1 : p.toInt.natAbs % q.toInt.natAbs < q.toInt.natAbs := Nat.mod_lt _ (by omega)
      have h2 : q.toInt.natAbs * (p.toInt.natAbs % q.toInt.natAbs) ≤ 2 ^ 40 * 2 ^ 40 := Nat.mul_le_mul (by omega) (by omega)
      have h3 : (2 : Nat) ^ 40 * 2 ^ 40 < 2 ^ 81 := by decide
      omega
    · rw [← gq, Nat.gcd_comm p.toInt.natAbs, Nat.gcd_rec q.toInt.natAbs p.toInt.natAbs, Nat.gcd_comm]
  refine ho_bind hg (fun r hr => ?_)
  obtain ⟨r2, r1⟩ := hr
  have dv : ∀ v : Int64, v.toInt ∣ v.toInt → ((Int.gcd p.toInt q.toInt : Nat) : Int) ∣ v.toInt → Ho (if r.1 ≤ (1 : Int64) then some (v, σ) else chk (decide (¬ r.1 = 0)) (some ((v / r.1), σ))) (fun s => s.2 = σ ∧ s.1.toInt = v.toInt / ((Int.gcd p.toInt q.toInt : Nat) : Int)) := by
    intro v _ hd
    have e1 : (1 : Int64).toInt = 1 := rfl
    refine ho_if (fun c => ho_some ⟨rfl, ?_⟩) (fun c => ho_chk (decide_eq_true (fun e => ?_)) (ho_some ⟨rfl, ?_⟩))
    · have := l_le.mp c
      have : ((Int.gcd p.toInt q.toInt : Nat) : Int) = 1 := by omega
      rw [this]; show v.toInt = _; omega
    · rw [e] at r1; have : (0 : Int64).toInt = 0 := rfl; omega
    · show (v / r.1).toInt = _
      rw [l_div _ _ (by omega), r1]
      exact Int.tdiv_eq_ediv_of_dvd hd
  refine ho_jn (ho_if (fun c => ?_) (fun c => ?_))
  · rw [r2]
    refine ho_mono (dv p (Int.dvd_refl _) (Int.gcd_dvd_left _ _)) (fun s hs => ⟨hs.1, _, _, hL, ?_⟩)
    rw [if_pos c]; exact hs.2
  · rw [r2]
    refine ho_mono (dv q (Int.dvd_refl _) (Int.gcd_dvd_right _ _)) (fun s hs => ⟨hs.1, _, _, hL, ?_⟩)
    rw [if_neg c]; exact hs.2
theorem y_common {p q : Int64} (hp : p.toInt.natAbs < 2 ^ 62) (hq : 0 < q.toInt) (hq2 : q.toInt < 2 ^ 40) (σ : St) : Ho (f_X6_common p q σ) (fun r => r.2 = σ ∧ r.1.toInt = ((Int.gcd p.toInt q.toInt : Nat) : Int)) := by
  have hfin : ∀ z : Int64, z.toInt = ((Int.gcd p.toInt q.toInt : Nat) : Int) → Ho (some (z, σ)) (fun r => r.2 = σ ∧ r.1.toInt = ((Int.gcd p.toInt q.toInt : Nat) : Int)) := fun z hz => ho_some ⟨rfl, hz⟩
  have gq : Nat.gcd p.toInt.natAbs q.toInt.natAbs = Int.gcd p.toInt q.toInt := rfl
  have e0 : (0 : Int64).toInt = 0 := rfl
  have main : ∀ v : Int64, v.toInt = (p.toInt.natAbs : Int) → Ho (f_X6_common_28 (fun (x13 : Int64) (σ14 : St) => some (x13, σ14)) 1000 v q σ) (fun r => r.2 = σ ∧ r.1.toInt = ((Int.gcd p.toInt q.toInt : Nat) : Int)) := by
    intro v hv
    rw [f_X6_common_28]
    have qn : ¬ q = 0 := fun e => by rw [e] at hq; exact absurd hq (by decide)
    refine ho_f qn (ho_chk (decide_eq_true qn) (ho_nm ?_))
    have bq : q.toInt = (q.toInt.natAbs : Int) := by omega
    refine y_gcd hfin 81 999 _ _ q.toInt.natAbs (p.toInt.natAbs % q.toInt.natAbs) bq ?_ ?_ (Nat.le_of_lt (Nat.mod_lt _ (by omega))) (by omega) ?_
    · rw [l_mod (by omega) hq, hv, bq]; rfl
    · have h1 : p.toInt.natAbs % q.toInt.natAbs < q.toInt.natAbs := Nat.mod_lt _ (by omega)
      have h2 : q.toInt.natAbs * (p.toInt.natAbs % q.toInt.natAbs) ≤ 2 ^ 40 * 2 ^ 40 := Nat.mul_le_mul (by omega) (by omega)
      have h3 : (2 : Nat) ^ 40 * 2 ^ 40 < 2 ^ 81 := by decide
      omega
    · rw [← gq, Nat.gcd_comm p.toInt.natAbs, Nat.gcd_rec q.toInt.natAbs p.toInt.natAbs, Nat.gcd_comm]
  have c2 : (0 : Int64) ≤ q := l_le.mpr (by omega)
  unfold f_X6_common
  refine ho_jn (ho_if (fun c => ho_jn (ho_t c2 (main p ?_))) (fun c => ho_jn (ho_t c2 (main (-p) ?_))))
  · have := l_le.mp c; omega
  · rw [l_neg (by omega)]
    have : ¬ (0 : Int64).toInt ≤ p.toInt := fun w => c (l_le.mpr w)
    omega
/-- the reference's part -/
theorem y_part {p q : Int64} (hp : p.toInt.natAbs < 2 ^ 62) (hq : 0 < q.toInt) (hq2 : q.toInt < 2 ^ 40) (fl : Int32) (σ : St) : Ho (f_X6_part p q fl σ) (fun r => r.2 = σ ∧ ∃ n d, LT ((p.toInt : Rat) / (q.toInt : Rat)) n d ∧ r.1.toInt = if fl = 0 then n else d) := by
  have hL := LT.of (p := p.toInt) hq
  have g0 : Int.gcd p.toInt q.toInt ≠ 0 := fun e => by have := (Int.gcd_eq_zero_iff.mp e).2; omega
  have e0 : (0 : Int64).toInt = 0 := rfl
  unfold f_X6_part
  refine ho_bind (y_common hp hq hq2 σ) (fun r hr => ?_)
  obtain ⟨r2, r1⟩ := hr
  have nz : decide (¬ r.1 = 0) = true := decide_eq_true (fun e => by rw [e] at r1; omega)
  refine ho_if (fun c => ho_chk nz (ho_some ⟨r2, _, _, hL, ?_⟩)) (fun c => ho_chk nz (ho_some ⟨r2, _, _, hL, ?_⟩))
  · rw [if_pos c]
    show (p / r.1).toInt = _
    rw [l_div _ _ (by omega), r1]
    exact Int.tdiv_eq_ediv_of_dvd (Int.gcd_dvd_left _ _)
  · rw [if_neg c]
    show (q / r.1).toInt = _
    rw [l_div _ _ (by omega), r1]
    exact Int.tdiv_eq_ediv_of_dvd (Int.gcd_dvd_right _ _)
