/-! transfer: what one line leaves room for -/
theorem r_cl {a b w : Rat} (hw : 0 < w) (h : a * w ≤ b * w) : a ≤ b := by
  rcases rlt b a with q | q
  · have := Rat.mul_lt_mul_of_pos_right q hw
    grind
  · exact q
theorem r_cl' {a b w : Rat} (hw : 0 < w) (h : a * w < b * w) : a < b := by
  rcases rlt a b with q | q
  · exact q
  · rcases rlt b a with q2 | q2
    · have := Rat.mul_lt_mul_of_pos_right q2 hw
      grind
    · have : a = b := by grind
      rw [this] at h
      grind
/-- the room of one line, as a relation -/
def RV (φ ψ M : Rat) (z : Int) : Prop :=
  if M < ab φ then z = -1 else if 0 < ψ then ((z : Rat) * ψ ≤ M - φ ∧ M - φ < ((z : Rat) + 1) * ψ) else if ψ < 0 then ((z : Rat) * (-ψ) ≤ M + φ ∧ M + φ < ((z : Rat) + 1) * (-ψ)) else z = 9999
theorem fl_one {p q : Rat} (hq : 0 < q) {z w : Int} (h1 : (z : Rat) * q ≤ p) (h2 : p < ((z : Rat) + 1) * q) (g1 : (w : Rat) * q ≤ p) (g2 : p < ((w : Rat) + 1) * q) : z = w := by
  have a : (z : Rat) < (w : Rat) + 1 := r_cl' hq (by grind)
  have b : (w : Rat) < (z : Rat) + 1 := r_cl' hq (by grind)
  have a' : ((z : Int) : Rat) < ((w + 1 : Int) : Rat) := by rw [Rat.intCast_add]; exact a
  have b' : ((w : Int) : Rat) < ((z + 1 : Int) : Rat) := by rw [Rat.intCast_add]; exact b
  have := rat_lt a'
  have := rat_lt b'
  omega
theorem RV.one {φ ψ M : Rat} {z w : Int} (h : RV φ ψ M z) (g : RV φ ψ M w) : z = w := by
  unfold RV at h g
  by_cases c0 : M < ab φ
  · rw [if_pos c0] at h g; rw [h, g]
  · rw [if_neg c0] at h g
    by_cases c1 : 0 < ψ
    · rw [if_pos c1] at h g
      exact fl_one c1 h.1 h.2 g.1 g.2
    · rw [if_neg c1] at h g
      by_cases c2 : ψ < 0
      · rw [if_pos c2] at h g
        exact fl_one (by grind) h.1 h.2 g.1 g.2
      · rw [if_neg c2] at h g; rw [h, g]
noncomputable def rvZ (φ ψ M : Rat) : Int := Classical.epsilon (fun z => RV φ ψ M z)
theorem RV.z {φ ψ M : Rat} {z : Int} (h : RV φ ψ M z) : rvZ φ ψ M = z := RV.one (Classical.epsilon_spec (p := fun z => RV φ ψ M z) ⟨z, h⟩) h
/-- whole numbers: a quotient -/
theorem q_fl {X Y : Int64} {α β W : Rat} (hW : 0 < W) (hX : ((X.toInt : Int) : Rat) = α * W) (hY : ((Y.toInt : Int) : Rat) = β * W) (x0 : 0 ≤ X.toInt) (y0 : 0 < Y.toInt) :
    ((((X / Y).toInt : Int) : Rat) * β ≤ α ∧ α < ((((X / Y).toInt : Int) : Rat) + 1) * β) ∧ 0 ≤ (X / Y).toInt ∧ (X / Y).toInt ≤ X.toInt := by
  have e : (X / Y).toInt = X.toInt / Y.toInt := by rw [l_div _ _ (by omega), Int.tdiv_eq_ediv_of_nonneg x0]
  have d1 : X.toInt / Y.toInt * Y.toInt ≤ X.toInt := Int.ediv_mul_le _ (by omega)
  have d2 : X.toInt < (X.toInt / Y.toInt + 1) * Y.toInt := Int.lt_ediv_add_one_mul_self _ y0
  have d3 : X.toInt / Y.toInt ≤ X.toInt := Int.ediv_le_self _ x0
  have d4 : 0 ≤ X.toInt / Y.toInt := Int.ediv_nonneg x0 (by omega)
  rw [e]
  refine ⟨⟨r_cl hW ?_, r_cl' hW ?_⟩, d4, d3⟩
  · have := Rat.intCast_le_intCast.mpr d1
    rw [Rat.intCast_mul, hX, hY] at this
    grind
  · have := Rat.intCast_lt_intCast.mpr d2
    rw [Rat.intCast_mul, Rat.intCast_add, hX, hY] at this
    have e1 : ((1 : Int) : Rat) = 1 := rfl
    rw [e1] at this
    grind
/-- the bounds of a line's numbers -/
def LB (p q B : Int64) (φ ψ M W : Rat) : Prop := 0 < W ∧ ((p.toInt : Int) : Rat) = φ * W ∧ ((q.toInt : Int) : Rat) = ψ * W ∧ ((B.toInt : Int) : Rat) = M * W ∧ p.toInt.natAbs ≤ 2021629995 ∧ q.toInt.natAbs ≤ 2021629995 ∧ 0 < B.toInt ∧ B.toInt ≤ 4080016899
section Lb
variable {p q B : Int64} {φ ψ M W : Rat}
theorem LB.over (h : LB p q B φ ψ M W) : M < ab φ ↔ B.toInt < (p.toInt.natAbs : Int) := by
  obtain ⟨hW, hp, hq, hB, -⟩ := h
  have w : ab W = W := by unfold ab; split <;> grind
  have e : (((p.toInt.natAbs : Nat) : Int) : Rat) = ab φ * W := by rw [← ab_int, hp, ab_mul, w]
  constructor
  · intro h
    have := Rat.mul_lt_mul_of_pos_right h hW
    rw [← hB, ← e] at this
    exact rat_lt this
  · intro h
    have := Rat.intCast_lt_intCast.mpr h
    rw [hB, e] at this
    exact r_cl' hW this
theorem LB.qpos (h : LB p q B φ ψ M W) : 0 < ψ ↔ 0 < q.toInt := by
  obtain ⟨hW, hp, hq, hB, -⟩ := h
  constructor
  · intro h
    have := Rat.mul_pos h hW
    rw [← hq] at this
    exact rat_lt (x := 0) this
  · intro h
    have := Rat.intCast_lt_intCast.mpr h
    rw [hq] at this
    exact r_cl' hW (by have e : ((0 : Int) : Rat) = 0 * W := by grind
                       rw [← e]; exact this)
theorem LB.qneg (h : LB p q B φ ψ M W) : ψ < 0 ↔ q.toInt < 0 := by
  obtain ⟨hW, hp, hq, hB, -⟩ := h
  have e : ((0 : Int) : Rat) = 0 * W := by grind
  constructor
  · intro h
    have := Rat.mul_lt_mul_of_pos_right h hW
    rw [← hq, ← e] at this
    exact rat_lt this
  · intro h
    have := Rat.intCast_lt_intCast.mpr h
    rw [hq] at this
    exact r_cl' hW (by rw [← e]; exact this)
theorem LB.rv1 (h : LB p q B φ ψ M W) (ho : B.toInt < (p.toInt.natAbs : Int)) : RV φ ψ M (-1) := by
  unfold RV
  rw [if_pos (h.over.mpr ho)]
theorem LB.rvP (h : LB p q B φ ψ M W) (ho : (p.toInt.natAbs : Int) ≤ B.toInt) (hq0 : 0 < q.toInt) : RV φ ψ M ((B - p) / q).toInt ∧ 0 ≤ ((B - p) / q).toInt ∧ ((B - p) / q).toInt ≤ 7000000000 := by
  have h0 := h
  obtain ⟨hW, hp, hq, hB, p1, q1, b0, b1⟩ := h
  have e : (B - p).toInt = B.toInt - p.toInt := fb_subL (by omega) (by omega)
  have f := q_fl (X := B - p) (Y := q) (α := M - φ) (β := ψ) hW (by rw [e, Rat.intCast_sub, hB, hp]; grind) hq (by omega) hq0
  refine ⟨?_, f.2.1, by have := f.2.2; omega⟩
  unfold RV
  rw [if_neg (fun w => by have := h0.over.mp w; omega), if_pos (h0.qpos.mpr hq0)]
  exact f.1
theorem LB.rvN (h : LB p q B φ ψ M W) (ho : (p.toInt.natAbs : Int) ≤ B.toInt) (hq0 : q.toInt < 0) : RV φ ψ M ((B + p) / (-q)).toInt ∧ 0 ≤ ((B + p) / (-q)).toInt ∧ ((B + p) / (-q)).toInt ≤ 7000000000 := by
  have h0 := h
  obtain ⟨hW, hp, hq, hB, p1, q1, b0, b1⟩ := h
  have e : (B + p).toInt = B.toInt + p.toInt := fb_addL (by omega) (by omega)
  have e2 : (-q).toInt = -q.toInt := l_neg (by omega)
  have f := q_fl (X := B + p) (Y := -q) (α := M + φ) (β := -ψ) hW (by rw [e, Rat.intCast_add, hB, hp]; grind) (by rw [e2, Rat.intCast_neg, hq]; grind) (by omega) (by omega)
  refine ⟨?_, f.2.1, by have := f.2.2; omega⟩
  unfold RV
  rw [if_neg (fun w => by have := h0.over.mp w; omega), if_neg (fun w => by have := h0.qpos.mp w; omega), if_pos (h0.qneg.mpr hq0)]
  exact f.1
theorem LB.rv0 (h : LB p q B φ ψ M W) (ho : (p.toInt.natAbs : Int) ≤ B.toInt) (hq0 : q.toInt = 0) : RV φ ψ M 9999 := by
  unfold RV
  rw [if_neg (fun w => by have := h.over.mp w; omega), if_neg (fun w => by have := h.qpos.mp w; omega), if_neg (fun w => by have := h.qneg.mp w; omega)]
theorem x_roomOf (h : LB p q B φ ψ M W) (σ : St) : Ho (f_X4_roomOf p q B σ) (fun r => r.2 = σ ∧ RV φ ψ M r.1.toInt ∧ -1 ≤ r.1.toInt ∧ r.1.toInt ≤ 7000000000) := by
  have h0 := h
  obtain ⟨hW, hp, hq, hB, p1, q1, b0, b1⟩ := h
  have ea := l_abs (x := p) (by omega)
  have e0 : (0 : Int64).toInt = 0 := rfl
  unfold f_X4_roomOf
  refine ho_if (fun c => ?_) (fun c => ho_some ⟨rfl, h0.rv1 ?_, (show (-1 : Int) ≤ (-1 : Int64).toInt by decide), (show (-1 : Int64).toInt ≤ (7000000000 : Int) by decide)⟩)
  · have c' := l_le.mp c
    rw [ea] at c'
    refine ho_if (fun d => ho_if (fun d2 => ho_some ⟨rfl, ?_, (show (-1 : Int) ≤ (9999 : Int64).toInt by decide), (show (9999 : Int64).toInt ≤ (7000000000 : Int) by decide)⟩) (fun d2 => ?_)) (fun d => ?_)
    · have := l_le.mp d
      have := l_le.mp d2
      exact h0.rv0 c' (by omega)
    · have : ¬ (0 : Int64).toInt ≤ q.toInt := fun w => d2 (l_le.mpr w)
      have e2 : (-q).toInt = -q.toInt := l_neg (by omega)
      have f := h0.rvN c' (by omega)
      exact ho_chk (decide_eq_true (fun w => by have := congrArg Int64.toInt w; omega)) (ho_some ⟨rfl, f.1, by have := f.2.1; show _ ≤ ((B + p) / (-q)).toInt; omega, f.2.2⟩)
    · have : ¬ q.toInt ≤ (0 : Int64).toInt := fun w => d (l_le.mpr w)
      have f := h0.rvP c' (by omega)
      exact ho_chk (decide_eq_true (fun w => by have := congrArg Int64.toInt w; omega)) (ho_some ⟨rfl, f.1, by have := f.2.1; show _ ≤ ((B - p) / q).toInt; omega, f.2.2⟩)
  · have : ¬ (if 0 < p then p else -p).toInt ≤ B.toInt := fun w => c (l_le.mpr w)
    rw [ea] at this
    omega
end Lb
/-- the least room of the live lines -/
noncomputable def mnV (N : Net) (lv : Nat → Bool) (x y : Nat → Rat) : Nat → Int
  | 0 => 9999
  | l + 1 => if lv l = true then min (mnV N lv x y l) (rvZ (fl_ N lv x l) (fl_ N lv y l) ((eM N l : Int) : Rat)) else mnV N lv x y l
section Rm
variable {N : Net} {lv : Nat → Bool} {sl : Nat → Nat} {σ : St}
theorem lb_of {W m : Int} {p q B : Int64} {φ ψ : Rat} (W0 : 0 < W) (W1 : W ≤ 4084101) (m1 : 1 ≤ m) (m2 : m ≤ 999) (hp : ((p.toInt : Int) : Rat) = φ * (W : Rat)) (hq : ((q.toInt : Int) : Rat) = ψ * (W : Rat)) (hB : B.toInt = W * m) (bφ : ab φ ≤ 495) (bψ : ab ψ ≤ 495) : LB p q B φ ψ (m : Rat) (W : Rat) := by
  have b1 : 0 < W * m := Int.mul_pos W0 (by omega)
  have b2 : W * m ≤ 4084101 * 999 := Int.mul_le_mul W1 m2 (by omega) (by omega)
  have c1 := cell_bd hp bφ W0 W1
  have c2 := cell_bd hq bψ W0 W1
  refine ⟨Rat.intCast_lt_intCast.mpr W0, hp, hq, ?_, by omega, by omega, by omega, by omega⟩
  rw [hB, Rat.intCast_mul]
  grind
theorem l2i {z : Int64} (h1 : -1 ≤ z.toInt) (h2 : z.toInt ≤ 9999) : z.toInt32 = iI z.toInt := by
  refine i_ext ?_
  rw [iI_t (by omega) (by omega), Int64.toInt_toInt32, fb_bmod (by omega) (by omega)]
theorem x_room (h : IN N σ 0 0 0) (hI : IslN N lv sl) (h7 : Lv7 σ N lv) (h8 : ∀ i, i < nB N → σ.1 8 i = nI (sl i)) {x y : Nat → Rat} {pl mi : Int32} (hx : SolN N lv sl (fQ N) x) (hy : SolN N lv sl (pQ pl mi) y) :
    Ho (f_X4_room pl mi σ) (fun q => Fr CS σ q.2 ∧ q.1 = iI (mnV N lv x y (nL N)) ∧ -1 ≤ mnV N lv x y (nL N) ∧ mnV N lv x y (nL N) ≤ 9999) := by
  have hN := h.NV
  have hm := hN.2.2.1
  have hb := fl_bd hN hx (fQ_bd hN) hI
  have hb2 := fl_bd hN hy (fun i _ => pQ_bd pl mi i) hI
  unfold f_X4_room
  refine ho_bind (x_solveS hN hI h.CG h7 h8 pl mi hx hy) (fun υ hυ => ?_)
  obtain ⟨F1, -, -, W, hW, W0, W1, hS⟩ := hυ
  have F1' : Fr CS σ υ := F1.mono (by decide)
  have hυ := h.q F1'
  have loop : ∀ (d l fuel : Nat) (z : Int64), l + d = nL N → d < fuel → z.toInt = mnV N lv x y l → -1 ≤ z.toInt → z.toInt ≤ 9999 → Ho (f_X4_room_13 (fun (x12 : Int64) (σ13 : St) => some (x12.toInt32, σ13)) fuel z (nI l) υ) (fun q => Fr CS σ q.2 ∧ q.1 = iI (mnV N lv x y (nL N)) ∧ -1 ≤ mnV N lv x y (nL N) ∧ mnV N lv x y (nL N) ≤ 9999) := by
    intro d
    induction d with
    | zero =>
      intro l fuel z hd hf hz z0 z1
      obtain ⟨fuel, rfl⟩ : ∃ f, fuel = f + 1 := ⟨fuel - 1, by omega⟩
      have e : l = nL N := by omega
      subst e
      rw [f_X4_room_13, hυ.CG.2.1]
      exact ho_t (nI_ge' (Nat.le_refl _) (by omega)) (ho_some ⟨F1', by rw [← hz]; exact l2i z0 z1, by omega, by omega⟩)
    | succ d ih =>
      intro l fuel z hd hf hz z0 z1
      obtain ⟨fuel, rfl⟩ : ∃ f, fuel = f + 1 := ⟨fuel - 1, by omega⟩
      have hlt : l < nL N := by omega
      obtain ⟨-, -, -, -, -, m1, m2⟩ := hN.2.2.2.2 l hlt
      have l7 : υ.1 7 l = bI (lv l) := by rw [F1.i (i := 7) (by decide)]; exact h7 l hlt
      rw [f_X4_room_13, hυ.CG.2.1, nI31 (k := l) (by omega), l7, hυ.e29 hlt]
      refine ho_f (nI_nge' (by omega) (by omega)) (ho_chk (ib_nI (by omega) (by omega)) ?_)
      by_cases hv : lv l = true
      · refine ho_f (by rw [hv]; decide) ?_
        have e1 : (iI (eM N l)).toInt64.toInt = eM N l := by rw [i2l_t, iI_t (by omega) (by omega)]
        have b1 : 0 < W * eM N l := Int.mul_pos W0 (by omega)
        have b2 : W * eM N l ≤ 4084101 * 999 := Int.mul_le_mul W1 m2 (by omega) (by omega)
        have e2 : (υ.2 6 7 * (iI (eM N l)).toInt64).toInt = W * eM N l := by rw [fb_mulL (by rw [hS.1, e1]; omega) (by rw [hS.1, e1]; omega), hS.1, e1]
        have hL := lb_of W0 W1 m1 m2 (hS.2.2.1 l hlt) (hS.2.2.2 l hlt) e2 (hb l hlt) (hb2 l hlt)
        refine ho_bind (x_roomOf hL υ) (fun r hr => ho_nm ?_)
        obtain ⟨r1, r2, r3, r4⟩ := hr
        rw [r1, nI_1]
        have em : mnV N lv x y (l + 1) = min (mnV N lv x y l) r.1.toInt := by rw [mnV, if_pos hv, r2.z]
        by_cases c : r.1 < z
        · have c' := l_lt.mp c
          rw [if_pos c]
          exact ih (l + 1) fuel r.1 (by omega) (by omega) (by omega) (by omega) (by omega)
        · have c' : ¬ r.1.toInt < z.toInt := fun w => c (l_lt.mpr w)
          rw [if_neg c]
          exact ih (l + 1) fuel z (by omega) (by omega) (by omega) (by omega) (by omega)
      · refine ho_t (by rw [bf_of hv]; rfl) ?_
        rw [nI_1]
        exact ih (l + 1) fuel z (by omega) (by omega) (by rw [mnV, if_neg hv]; exact hz) z0 z1
  exact loop (nL N) 0 1000 9999 (by omega) (by omega) rfl (by decide) (by decide)
end Rm
