/-! the heaviest line: both sides -/
def wi (o : Option Nat) : Int32 := match o with | none => -1 | some w => nI w
def wr (ρ : Nat → Rat) (o : Option Nat) : Rat := match o with | none => 0 | some w => ρ w
/-- the heaviest so far against line l: the first of equals stays -/
def jst (ρ : Nat → Rat) (o : Option Nat) (l : Nat) : Option Nat := match o with | none => some l | some w => if ρ w < ρ l then some l else some w
def jw (ρ : Nat → Rat) (lv : Nat → Bool) : Nat → Option Nat
  | 0 => none
  | l + 1 => if lv l = true then jst ρ (jw ρ lv l) l else jw ρ lv l
def jc (ρ : Nat → Rat) (lv : Nat → Bool) : Nat → Nat
  | 0 => 0
  | l + 1 => if lv l = true then jc ρ lv l + (if 1 < ρ l then 1 else 0) else jc ρ lv l
theorem jc_le (ρ : Nat → Rat) (lv : Nat → Bool) : ∀ l, jc ρ lv l ≤ l
  | 0 => Nat.le_refl 0
  | l + 1 => by
    have := jc_le ρ lv l
    rw [jc]
    split
    · split <;> omega
    · omega
theorem jst_lt {ρ : Nat → Rat} {o : Option Nat} {l w : Nat} (ho : ∀ w, o = some w → w < l) (h : jst ρ o l = some w) : w < l + 1 := by
  unfold jst at h
  match o, ho, h with
  | none, _, h => have := Option.some.inj h; omega
  | some v, ho, h =>
    have := ho v rfl
    dsimp only at h
    split at h
    · have := Option.some.inj h; omega
    · have := Option.some.inj h; omega
theorem jw_lt (ρ : Nat → Rat) (lv : Nat → Bool) : ∀ l w, jw ρ lv l = some w → w < l
  | 0, w, h => by simp [jw] at h
  | l + 1, w, h => by
    rw [jw] at h
    split at h
    · exact jst_lt (jw_lt ρ lv l) h
    · have := jw_lt ρ lv l w h; omega
theorem wi_ne {o : Option Nat} (ho : ∀ w, o = some w → w < 10) : wi o = -1 ↔ o = none := by
  match o, ho with
  | none, _ => exact ⟨fun _ => rfl, fun _ => rfl⟩
  | some w, ho =>
    have := ho w rfl
    refine ⟨fun e => ?_, fun e => by cases e⟩
    have q := congrArg Int32.toInt (show nI w = (-1 : Int32) from e)
    rw [nI_t (by omega)] at q
    have : (-1 : Int32).toInt = -1 := rfl
    omega
/-- crosswise comparison -/
theorem cmpX {p q r s : Int64} {α β : Rat} (hp : ((p.toInt : Int) : Rat) = α * ((q.toInt : Int) : Rat)) (hr : ((r.toInt : Int) : Rat) = β * ((s.toInt : Int) : Rat)) (p0 : 0 ≤ p.toInt) (p1 : p.toInt ≤ 2021629995) (q0 : 0 < q.toInt) (q1 : q.toInt ≤ 4080016899) (r0 : 0 ≤ r.toInt) (r1 : r.toInt ≤ 2021629995) (s0 : 0 < s.toInt) (s1 : s.toInt ≤ 4080016899) : p * s ≤ r * q ↔ α ≤ β := by
  have bd : ∀ {u v : Int64}, 0 ≤ u.toInt → u.toInt ≤ 2021629995 → 0 < v.toInt → v.toInt ≤ 4080016899 → (u * v).toInt = u.toInt * v.toInt := by
    intro u v a b c d
    have w1 : 0 ≤ u.toInt * v.toInt := Int.mul_nonneg a (by omega)
    have w2 : u.toInt * v.toInt ≤ 2021629995 * 4080016899 := Int.mul_le_mul b d (by omega) (by omega)
    exact fb_mulL (by omega) (by omega)
  rw [l_le, bd p0 p1 s0 s1, bd r0 r1 q0 q1]
  have qp : (0 : Rat) < ((q.toInt : Int) : Rat) := Rat.intCast_lt_intCast.mpr q0
  have sp : (0 : Rat) < ((s.toInt : Int) : Rat) := Rat.intCast_lt_intCast.mpr s0
  have qs : (0 : Rat) < ((q.toInt : Int) : Rat) * ((s.toInt : Int) : Rat) := Rat.mul_pos qp sp
  have e1 : ((p.toInt * s.toInt : Int) : Rat) = α * (((q.toInt : Int) : Rat) * ((s.toInt : Int) : Rat)) := by rw [Rat.intCast_mul, hp]; grind
  have e2 : ((r.toInt * q.toInt : Int) : Rat) = β * (((q.toInt : Int) : Rat) * ((s.toInt : Int) : Rat)) := by rw [Rat.intCast_mul, hr]; grind
  rw [← Rat.intCast_le_intCast, e1, e2]
  constructor
  · intro h
    rcases rlt β α with w | w
    · have := Rat.mul_lt_mul_of_pos_right w qs
      grind
    · exact w
  · intro h
    exact mul_le2 h Rat.le_refl (by grind) (by
      rcases rlt β 0 with w | w
      · have := Rat.mul_lt_mul_of_pos_right w sp
        rw [← hr] at this
        have z : ((r.toInt : Int) : Rat) < ((0 : Int) : Rat) := by
          have e : (0 : Rat) * ((s.toInt : Int) : Rat) = ((0 : Int) : Rat) := by grind
          rw [← e]; exact this
        have := rat_lt z
        omega
      · exact w)
theorem cmpX1 {p q : Int64} {α : Rat} (hp : ((p.toInt : Int) : Rat) = α * ((q.toInt : Int) : Rat)) (q0 : 0 < q.toInt) : p ≤ q ↔ α ≤ 1 := by
  rw [l_le, ← Rat.intCast_le_intCast, hp]
  have qp : (0 : Rat) < ((q.toInt : Int) : Rat) := Rat.intCast_lt_intCast.mpr q0
  constructor
  · intro h
    rcases rlt 1 α with w | w
    · have := Rat.mul_lt_mul_of_pos_right w qp
      grind
    · exact w
  · intro h
    have := mul_le2 h (Rat.le_refl (a := ((q.toInt : Int) : Rat))) (by grind) (by grind)
    grind
/-- a told quotient: top over bottom is α -/
def Qt (p q : Int64) (α : Rat) : Prop := ((p.toInt : Int) : Rat) = α * ((q.toInt : Int) : Rat) ∧ 0 ≤ p.toInt ∧ p.toInt ≤ 2021629995 ∧ 0 < q.toInt ∧ q.toInt ≤ 4080016899
theorem Qt.cmp {p q r s : Int64} {α β : Rat} (h : Qt p q α) (g : Qt r s β) : p * s ≤ r * q ↔ α ≤ β := cmpX h.1 g.1 h.2.1 h.2.2.1 h.2.2.2.1 h.2.2.2.2 g.2.1 g.2.2.1 g.2.2.2.1 g.2.2.2.2
theorem Qt.zero : Qt 0 1 0 := ⟨by decide +kernel, by decide, by decide, by decide, by decide⟩
def Jx (τ : St) (o : Option Nat) (c : Nat) (ρ : Nat → Rat) : Prop := τ.1 6 8 = wi o ∧ Qt (τ.2 6 9) (τ.2 6 10) (wr ρ o) ∧ τ.1 6 11 = nI c
theorem x_weigh {σ : St} {o : Option Nat} {c l : Nat} {ρ : Nat → Rat} (hJ : Jx σ o c ρ) (ho : ∀ w, o = some w → w < 10) {a2 a3 : Int64} (hQ : Qt a2 a3 (ρ l)) :
    Ho (f_X4_weigh (nI l) a2 a3 σ) (fun τ => Fr [6] σ τ ∧ (∀ k, k ≠ 9 → k ≠ 10 → τ.2 6 k = σ.2 6 k) ∧ Jx τ (jst ρ o l) (c + if 1 < ρ l then 1 else 0) ρ) := by
  obtain ⟨j1, j2, j3⟩ := hJ
  have tail : ∀ τ : St, Fr [6] σ τ → (∀ k, k ≠ 9 → k ≠ 10 → τ.2 6 k = σ.2 6 k) → Jx τ (jst ρ o l) c ρ → Ho (if a2 ≤ a3 then some τ else nm (sI τ 6 11 ((τ.1 6 11) + (1 : Int32))) (fun σ4 : St => some σ4)) (fun τ => Fr [6] σ τ ∧ (∀ k, k ≠ 9 → k ≠ 10 → τ.2 6 k = σ.2 6 k) ∧ Jx τ (jst ρ o l) (c + if 1 < ρ l then 1 else 0) ρ) := by
    intro τ hF hk hJ
    refine ho_if (fun q => ho_some ⟨hF, hk, ?_⟩) (fun q => ho_nm (ho_some ⟨hF.sI (by decide), hk, ?_⟩))
    · have := (cmpX1 hQ.1 hQ.2.2.2.1).mp q
      rw [if_neg (by grind)]; exact hJ
    · have : ¬ ρ l ≤ 1 := fun w => q ((cmpX1 hQ.1 hQ.2.2.2.1).mpr w)
      rw [if_pos (by grind)]
      refine ⟨?_, hJ.2.1, ?_⟩
      · rw [sI_off _ _ _ _ (by decide)]; exact hJ.1
      · rw [sI_at, hJ.2.2, show nI c + (1 : Int32) = nI (c + 1) from nI_1 c]
  have put : jst ρ o l = some l → Ho (nm (sI σ 6 8 (nI l)) (fun σ6 : St => nm (sL σ6 6 9 a2) (fun σ7 : St => nm (sL σ7 6 10 a3) (fun σ8 : St => (fun q1 : St => if a2 ≤ a3 then some q1 else nm (sI q1 6 11 ((q1.1 6 11) + (1 : Int32))) (fun σ4 : St => some σ4)) σ8)))) (fun τ => Fr [6] σ τ ∧ (∀ k, k ≠ 9 → k ≠ 10 → τ.2 6 k = σ.2 6 k) ∧ Jx τ (jst ρ o l) (c + if 1 < ρ l then 1 else 0) ρ) := by
    intro hj
    refine ho_nm (ho_nm (ho_nm (tail _ (((Fr.refl.sI (by decide)).sL (by decide)).sL (by decide)) (fun k h9 h10 => ?_) ⟨?_, ?_, ?_⟩)))
    · rw [sL_off _ _ _ _ h10, sL_off _ _ _ _ h9, sI_2]
    · rw [sL_1, sL_1, sI_at, hj]; rfl
    · rw [sL_at, sL_off _ _ _ _ (show 9 ≠ 10 by decide), sL_at, hj]; exact hQ
    · rw [sL_1, sL_1, sI_off _ _ _ _ (show 11 ≠ 8 by decide)]; exact j3
  unfold f_X4_weigh
  refine ho_jn (ho_if (fun q => put ?_) (fun q => ?_))
  · rw [j1] at q
    rw [(wi_ne ho).mp q]; rfl
  · match o, ho, j1, j2, tail, put with
    | none, _, j1, _, _, _ => exact absurd j1 q
    | some w, ho, j1, j2, tail, put =>
      unfold f_X5_isGreater
      have cm := hQ.cmp j2
      by_cases c2 : a2 * σ.2 6 10 ≤ σ.2 6 9 * a3
      · have r1 : ρ l ≤ ρ w := cm.mp c2
        have hj : jst ρ (some w) l = some w := by unfold jst; exact if_neg (by grind)
        rw [if_pos c2]
        refine ho_be rfl (ho_t rfl (tail σ Fr.refl (fun _ _ _ => rfl) ?_))
        rw [hj]
        exact ⟨j1, j2, j3⟩
      · have r1 : ¬ ρ l ≤ ρ w := fun z => c2 (cm.mpr z)
        have hj : jst ρ (some w) l = some l := by unfold jst; exact if_pos (by grind)
        rw [if_neg c2]
        exact ho_be rfl (ho_f (show ¬ (1 : Int32) = 0 by decide) (put hj))
