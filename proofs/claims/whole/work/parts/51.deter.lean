/-! the reference: the determinant, all of it -/
section Dt2
variable {M e : Nat}
/-- the state of the elimination before column k -/
def Dg (M e : Nat) (Z : Nat → Nat → Rat) (k : Nat) (τ : St) (x1 x2 : Int64) (P : Nat → Nat → Rat) : Prop :=
  (∀ r c, isI (P r c)) ∧ (∀ c, c < M → sm (fun r => ab (P r c)) M ≤ bd5 e c) ∧ (∀ t, 1 ≤ t → t ≤ k → dt t P ≠ 0) ∧ ((x1.toInt : Int) : Rat) = dt k P ∧ (x2.toInt = 1 ∨ x2.toInt = -1) ∧ dt M Z = ((x2.toInt : Int) : Rat) * dt M P ∧ ∀ r c, k ≤ r → r < M → k ≤ c → c < M → (((τ.2 97 (6 * r + c)).toInt : Int) : Rat) = bm P k r c
theorem bm_sw {P : Nat → Nat → Rat} {k p : Nat} (hkp : k < p) {r : Nat} (hr : k ≤ r) (c : Nat) : bm (sw P k p) k r c = bm P k (if r = k then p else if r = p then k else r) c := by
  refine dt_congr (fun a b ha hb => ?_)
  unfold sw
  by_cases h : a < k
  · rw [if_pos h, if_pos h, if_neg (by omega), if_neg (by omega)]
  · rw [if_neg h, if_neg h]
theorem dt_swl {P : Nat → Nat → Rat} {k p t : Nat} (hkp : k < p) (ht : t ≤ k) : dt t (sw P k p) = dt t P := by
  refine dt_congr (fun a b ha hb => ?_)
  unfold sw
  rw [if_neg (by omega), if_neg (by omega)]
theorem y_step {Z : Nat → Nat → Rat} {σ τ : St} {k fuel : Nat} {x1 x2 : Int64} {P : Nat → Nat → Rat} (hM : M ≤ 5) (h14 : σ.1 87 14 = nI M) (h1 : τ.1 = σ.1) (hF : Fr [97] σ τ) (hk : k < M) (hD : Dg M e Z k τ x1 x2 P) (hp : dt (k + 1) P ≠ 0) {q : Int64 × St}
    {K5 : Int64 → Int64 → St → Option (Int64 × St)} {Q : Int64 × St → Prop} (hq1 : q.1 = x2) (hq2 : q.2 = τ)
    (ih : ∀ (τ : St) (x1 x2 : Int64) (P : Nat → Nat → Rat), τ.1 = σ.1 → Fr [97] σ τ → Dg M e Z (k + 1) τ x1 x2 P → Ho (f_X6_determinant_7 K5 fuel x1 x2 (nI (k + 1)) τ) Q) :
    Ho (nm (nI k + (1 : Int32)) (fun x20 : Int32 =>
            f_X6_determinant_88 x1 (nI k) q (fun (σ39 : St) =>
              chk (ib ((7 : Int32) * nI k) 36) (
              nm (σ39.2 97 ((7 : Int32) * nI k).toNatClampNeg) (fun x41 : Int64 =>
              f_X6_determinant_7 K5 fuel x41 q.1 (nI k + 1) σ39))) 1000 x20 q.2)) Q := by
  obtain ⟨hI, hc, hd, hx1, hx2, hdt, hcell⟩ := hD
  refine ho_nm ?_
  rw [nI_1, hq1, hq2, ix7, nI31 (k := 7 * k) (by omega)]
  have hw : x1.toInt ≠ 0 := fun w => by
    rw [w] at hx1
    by_cases q : k = 0
    · subst q
      have : ((0 : Int) : Rat) = 1 := hx1
      exact absurd this (by decide)
    · exact hd k (by omega) (Nat.le_refl k) hx1.symm
  have hz : ∀ r c, ∃ v : Int, bm P (k + 1) r c = (v : Rat) := fun r c => bm_int hI (k + 1) r c
  have e7 : 7 * k = 6 * k + k := by omega
  refine y_d88 (τ0 := τ) (z := fun r c => (hz r c).choose) hM (by rw [h1]; exact h14) hw hk (fun r c a b a2 b2 => ?_) (fun υ g1 gF gC gp => ?_) (M - (k + 1)) (k + 1) 1000 τ (by omega) (by omega) (by omega) rfl Fr.refl (fun r' c a b => absurd a (by omega)) (fun _ _ _ _ => rfl)
  · have hv := (hz r c).choose_spec
    try dsimp only
    generalize (hz r c).choose = v at hv
    have st := bm_step (M := P) (i := r) (j := c) a a2 hd
    have A := hcell r c (by omega) b (by omega) b2
    have B := hcell k k (by omega) (by omega) (by omega) (by omega)
    have C := hcell r k (by omega) b (by omega) (by omega)
    have D := hcell k c (by omega) (by omega) (by omega) b2
    rw [bm_lead] at B
    rw [← B, ← A, ← C, ← D, ← hx1, hv] at st
    rw [e7]
    have main : (τ.2 97 (6 * r + c)).toInt * (τ.2 97 (6 * k + k)).toInt - (τ.2 97 (6 * r + k)).toInt * (τ.2 97 (6 * k + c)).toInt = x1.toInt * v := by
      apply rat_eq
      rw [Rat.intCast_sub, Rat.intCast_mul, Rat.intCast_mul, Rat.intCast_mul]
      grind
    have b1 := dP_bd (e := e) hM hc (k := k) (by omega) (by omega)
    have b3 := bP_bd (e := e) hM hc a b a2 b2
    rw [← hx1, ab_int] at b1
    rw [hv, ab_int] at b3
    have b1' : ((x1.toInt.natAbs : Nat) : Int) ≤ 4950000 := rat_le (y := 4950000) (by have e : ((4950000 : Int) : Rat) = 4950000 := rfl; rw [e]; exact b1)
    have b3' : ((v.natAbs : Nat) : Int) ≤ 49500000000 := rat_le (y := 49500000000) (by have e : ((49500000000 : Int) : Rat) = 49500000000 := rfl; rw [e]; exact b3)
    have bb : (x1.toInt * v).natAbs ≤ 4950000 * 49500000000 := by
      rw [Int.natAbs_mul]
      exact Nat.mul_le_mul (by omega) (by omega)
    exact ⟨main, by omega, by omega⟩
  · try dsimp only at gC
    refine ho_chk (ib_nI (by omega) (by omega)) (ho_nm (ih υ _ _ P (g1.trans h1) (hF.trans gF) ⟨hI, hc, fun t a b => ?_, ?_, hx2, hdt, fun r c a b a2 b2 => ?_⟩))
    · by_cases w : t = k + 1
      · rw [w]; exact hp
      · exact hd t a (by omega)
    · rw [gp, e7, hcell k k (by omega) (by omega) (by omega) (by omega), bm_lead]
    · rw [gC r c (by omega) b (by omega) b2]
      exact (hz r c).choose_spec.symm
theorem y_determinant {σ : St} {Z : Nat → Nat → Int} (hM : M ≤ 5) (h14 : σ.1 87 14 = nI M) (hZ : ∀ r c, r < M → c < M → (σ.2 97 (6 * r + c)).toInt = Z r c) (hc : ∀ c, c < M → sm (fun r => ab ((Z r c : Int) : Rat)) M ≤ bd5 e c) :
    Ho (f_X6_determinant σ) (fun q => ((q.1.toInt : Int) : Rat) = dt M (fun r c => ((Z r c : Int) : Rat)) ∧ Fr [97] σ q.2 ∧ q.2.1 = σ.1) := by
  generalize hZQ : (fun r c => ((Z r c : Int) : Rat)) = ZQ
  have loop : ∀ (d k fuel : Nat) (τ : St) (x1 x2 : Int64) (P : Nat → Nat → Rat), k + d = M → d < fuel → τ.1 = σ.1 → Fr [97] σ τ → Dg M e ZQ k τ x1 x2 P → Ho (f_X6_determinant_7 (fun (x45 : Int64) (x46 : Int64) (σ47 : St) => some ((x46 * x45), σ47)) fuel x1 x2 (nI k) τ) (fun q => ((q.1.toInt : Int) : Rat) = dt M ZQ ∧ Fr [97] σ q.2 ∧ q.2.1 = σ.1) := by
    intro d
    induction d with
    | zero =>
      intro k fuel τ x1 x2 P hd hf h1 hF hD
      obtain ⟨fuel, rfl⟩ : ∃ f, fuel = f + 1 := ⟨fuel - 1, by omega⟩
      obtain ⟨hI, hc, hd', hx1, hx2, hdt, hcell⟩ := hD
      have ek : k = M := by omega
      subst ek
      rw [f_X6_determinant_7, h1, h14]
      refine ho_t (nI_ge' (Nat.le_refl _) (by omega)) (ho_some ⟨?_, hF, h1⟩)
      rw [hdt, ← hx1]
      try dsimp only
      have rg := fb_rngL x1
      have nmin : x1.toInt ≠ -9223372036854775808 := by
        -- the determinant is small
        have b := dt_cols k P
        have b2 := (prc (g := fun c => sm (fun r => ab (P r c)) k) (t := k) (e := e) hM (fun d hd => ⟨sm_nn (fun r _ => ab_nn _), Rat.le_trans (hc d hd) (bd5_le e d)⟩)).1
        have b3 := Rat.le_trans b b2
        rw [← hx1, ab_int] at b3
        have b3' : ((x1.toInt.natAbs : Nat) : Int) ≤ 49500000000 := rat_le (y := 49500000000) (by have e : ((49500000000 : Int) : Rat) = 49500000000 := rfl; rw [e]; exact b3)
        omega
      rcases hx2 with w | w
      · rw [fb_mulL (by rw [w]; omega) (by rw [w]; omega), Rat.intCast_mul]
      · rw [fb_mulL (by rw [w]; omega) (by rw [w]; omega), Rat.intCast_mul]
    | succ d ih =>
      intro k fuel τ x1 x2 P hd hf h1 hF hD
      obtain ⟨fuel, rfl⟩ : ∃ f, fuel = f + 1 := ⟨fuel - 1, by omega⟩
      have hD' := hD
      obtain ⟨hI, hc, hd', hx1, hx2, hdt, hcell⟩ := hD
      rw [f_X6_determinant_7, h1, h14]
      refine ho_f (nI_nge' (by omega) (by omega)) ?_
      refine y_d20 hM (by rw [h1]; exact h14) (by omega) (fun p hkp hpM h0 hp0 => ?_) (M - k) k 1000 (by omega) (by omega) (Nat.le_refl k) (fun r a b => absurd a (by omega))
      try dsimp only
      rw [h1, h14]
      refine ho_if (fun c => ?_) (fun c => ?_)
      · have c' := nI_inj (by omega) (by omega) c
        refine ho_some ⟨?_, hF, h1⟩
        have : dt M P = 0 := dt_zero (k := k) (by omega) hd' (fun r a b => by
          rw [← hcell r k a b (Nat.le_refl k) (by omega), h0 r a (by omega)]; rfl)
        rw [hdt, this]
        show ((0 : Int) : Rat) = _
        grind
      · have c' : p < M := by
          rcases Nat.lt_or_ge p M with w | w
          · exact w
          · exact absurd (by rw [show p = M by omega]) c
        have nz : (τ.2 97 (6 * p + k)).toInt ≠ 0 := fun w => hp0 c' (l_ext w)
        have ncell := hcell p k hkp c' (Nat.le_refl k) (by omega)
        refine ho_jn (ho_if (fun w => ?_) (fun w => ?_))
        · have e1 : p = k := by
            rcases Nat.lt_or_ge k p with q | q
            · exact absurd w (nI_nge' q (by omega))
            · omega
          refine y_step (e := e) hM h14 h1 hF (by omega) hD' ?_ rfl rfl (fun υ y1 y2 R g1 gF gD => ih (k + 1) fuel υ y1 y2 R (by omega) (by omega) g1 gF gD)
          intro z
          rw [e1, bm_lead, z] at ncell
          rw [e1] at nz
          exact nz (rat_eq ncell)
        · have hlt : k < p := by
            rcases Nat.lt_or_ge k p with q | q
            · exact q
            · exact absurd (nI_ge' q (by omega)) w
          refine ho_bind (y_swapsRows (σ := τ) hM (by rw [h1]; exact h14) c' (by omega : k < M) (by omega)) (fun υ hυ => ?_)
          obtain ⟨g1, gF, gC⟩ := hυ
          refine ho_nm ?_
          have nx2 : (-x2).toInt = -x2.toInt := l_neg (by omega)
          refine y_step (e := e) (P := sw P k p) (x2 := -x2) hM h14 (g1.trans h1) (hF.trans gF) (by omega) ⟨fun r c => hI _ _, fun c hcM => ?_, fun t a b => ?_, ?_, ?_, ?_, fun r c a b a2 b2 => ?_⟩ ?_ rfl rfl (fun υ y1 y2 R g1 gF gD => ih (k + 1) fuel υ y1 y2 R (by omega) (by omega) g1 gF gD)
          · unfold sw
            rw [sm_sw (f := fun r => ab (P r c)) hlt c']
            exact hc c hcM
          · rw [dt_swl hlt b]; exact hd' t a b
          · rw [dt_swl hlt (Nat.le_refl k)]; exact hx1
          · rw [nx2]; omega
          · rw [dt_swap P hlt c', nx2, hdt, Rat.intCast_neg]; grind
          · rw [gC r c b b2, hcell _ c (by split <;> (try split) <;> omega) (by split <;> (try split) <;> omega) a2 b2, bm_sw hlt a]
          · intro z
            rw [← bm_lead, bm_sw hlt (Nat.le_refl k), if_pos rfl, ← ncell] at z
            exact nz (rat_eq z)
  unfold f_X6_determinant
  refine loop M 0 1000 σ 1 1 ZQ (by omega) (by omega) rfl Fr.refl ⟨fun r c => ⟨Z r c, by rw [← hZQ]⟩, fun c hcM => ?_, fun t a b => absurd a (by omega), rfl, Or.inl rfl, ?_, fun r c _ b _ b2 => ?_⟩
  · rw [← hZQ]; exact hc c hcM
  · show _ = ((1 : Int) : Rat) * _
    grind
  · rw [hZ r c b b2, bm_0, ← hZQ]
end Dt2
