/-! both sides' solutions, told with the same x -/
theorem Isl.cg {n m : Nat} {a b : Nat → Nat} {lv lv' : Nat → Bool} {sl : Nat → Nat} (h : Isl n m a b lv sl) (e : ∀ l, l < m → lv l = lv' l) : Isl n m a b lv' sl :=
  ⟨h.1, fun l hl hv => h.2.1 l hl (by rw [e l hl]; exact hv), fun P hP i hi => h.2.2 P (fun l hl hv => hP l hl (by rw [← e l hl]; exact hv)) i hi⟩
theorem Isl.sg {n m : Nat} {a b : Nat → Nat} {lv : Nat → Bool} {sl sl' : Nat → Nat} (hn : ∀ l, l < m → a l < n ∧ b l < n) (h : Isl n m a b lv sl) (e : ∀ i, i < n → sl i = sl' i) : Isl n m a b lv sl' :=
  ⟨fun i hi => by rw [← e i hi, ← e (sl i) (h.lt hi)]; exact h.1 i hi, fun l hl hv => by rw [← e _ (hn l hl).1, ← e _ (hn l hl).2]; exact h.2.1 l hl hv, fun P hP i hi => by rw [← e i hi]; exact h.2.2 P hP i hi⟩
theorem Sol.cg {n m : Nat} {a b : Nat → Nat} {s : Nat → Rat} {lv lv' : Nat → Bool} {sl sl' : Nat → Nat} {f f' x : Nat → Rat} (h : Sol n m a b s lv sl f x) (e : ∀ l, l < m → lv l = lv' l) (e2 : ∀ i, i < n → sl i = sl' i) (e3 : ∀ i, i < n → f i = f' i) : Sol n m a b s lv' sl' f' x :=
  ⟨fun i hi hs => h.1 i hi (by rw [e2 i hi]; exact hs), fun i hi hs => by rw [← e3 i hi, ← h.2 i hi (by rw [e2 i hi]; exact hs)]; exact sm_congr (fun l hl => by rw [e l hl])⟩
theorem SVc.cg {σ : St} {N : Net} {lv : Nat → Bool} {x y x' y' : Nat → Rat} {W : Int} (hN : NV N) (h : SVc σ N lv x y W) (ex : ∀ i, i < nB N → x i = x' i) (ey : ∀ i, i < nB N → y i = y' i) : SVc σ N lv x' y' W := by
  have fe : ∀ (z z' : Nat → Rat), (∀ i, i < nB N → z i = z' i) → ∀ l, l < nL N → fl_ N lv z l = fl_ N lv z' l := fun z z' e l hl => by
    unfold fl_
    rw [e _ (hN.ab l hl).1, e _ (hN.ab l hl).2]
  exact ⟨h.1, fun i hi => by rw [← ex i hi]; exact h.2.1 i hi, fun l hl => by rw [← fe x x' ex l hl]; exact h.2.2.1 l hl, fun l hl => by rw [← fe y y' ey l hl]; exact h.2.2.2 l hl⟩
section Fl
variable {N : Net} {lv : Nat → Bool} {sl : Nat → Nat}
theorem x_takeS {σ : St} (hN : NV N) (hG : CG σ 24 N) (j k : Int32) (hl : ∀ l, l < nL N → lvX N j k l = lv l) (hI : IslN N lv sl) :
    Ho (f_X4_take j k σ) (fun τ => Fr [7, 8] σ τ ∧ Lv7 τ N lv ∧ ∀ i, i < nB N → τ.1 8 i = nI (sl i)) := by
  refine ho_mono (x_take hN hG j k) (fun τ h => ?_)
  obtain ⟨h1, h2, sl', h3, h4⟩ := h
  refine ⟨h1, fun l hl2 => by rw [← hl l hl2]; exact h2 l hl2, fun i hi => ?_⟩
  rw [h4 i hi, Isl.one (h3.cg hl) hI i hi]
theorem x_solveS (hN : NV N) (hI : IslN N lv sl) {σ : St} (hG : CG σ 24 N) (h7 : Lv7 σ N lv) (h8 : ∀ i, i < nB N → σ.1 8 i = nI (sl i)) (pl mi : Int32) {x y : Nat → Rat} (hx : SolN N lv sl (fQ N) x) (hy : SolN N lv sl (pQ pl mi) y) :
    Ho (f_X4_solve pl mi σ) (fun τ => Fr WS σ τ ∧ (∀ k, k ≠ 7 → τ.2 6 k = σ.2 6 k) ∧ τ.1 6 = σ.1 6 ∧ ∃ (W : Int), (W : Rat) = dt (nB N) (AmQ N lv sl) ∧ 0 < W ∧ W ≤ 4084101 ∧ SVc τ N lv x y W) := by
  refine ho_mono (x_solve hN hI hG h7 h8 pl mi) (fun τ h => ?_)
  obtain ⟨h1, h2, h3, x', y', W, hW, hx', hy', hS⟩ := h
  refine ⟨h1, h2, h3, W, hW, ?_, ?_, hS.cg hN (Sol.uniq hN hI hx' hx) (Sol.uniq hN hI hy' hy)⟩
  · have := (AmQ_PD hN hI).dpos (Nat.le_refl _)
    rw [← hW] at this
    exact rat_lt this
  · have := whole_le hI hN.2.1 (by have := hN.1; omega) hN.2.2.1 hN.ab3 hN.s
    have q : (W : Rat) ≤ ((4084101 : Int) : Rat) := by rw [hW]; exact this
    exact rat_le q
theorem y_partsS (hN : NV N) {σ : St} (hG : MG (σ.1 88) N) {S : Int32} (hl : ∀ l, l < nL N → bt S l = lv l) (hI : IslN N lv sl) :
    Ho (f_X6_parts S σ) (fun τ => Fr [94] σ τ ∧ ∀ i, i < nB N → τ.1 94 i = nI (sl i)) := by
  refine ho_mono (y_parts hN hG S) (fun τ h => ?_)
  obtain ⟨h1, sl', h3, h4⟩ := h
  exact ⟨h1, fun i hi => by rw [h4 i hi, Isl.one (h3.cg hl) hI i hi]⟩
def WM : List Nat := [87, 94, 95, 96, 97, 98]
theorem y_solvesS (hN : NV N) {σ : St} (hG : MG (σ.1 88) N) {S : Int32} (hl : ∀ l, l < nL N → bt S l = lv l) (hI : IslN N lv sl) {fd : Nat → Int} (h93 : ∀ i, i < nB N → (σ.2 93 i).toInt = fd i) (hfd : ∀ i, i < nB N → -99 ≤ fd i ∧ fd i ≤ 99) {x : Nat → Rat} (hx : SolN N lv sl (fun i => ((fd i : Int) : Rat)) x) :
    Ho (f_X6_solves S σ) (fun τ => Fr WM σ τ ∧ (∀ k, k ≠ 14 → τ.1 87 k = σ.1 87 k) ∧ τ.2 87 = σ.2 87 ∧ (∀ i, i < nB N → τ.1 94 i = nI (sl i)) ∧ ∀ j, j < nB N → SvJ τ x sl j) := by
  refine ho_mono (y_solves (S := S) hN hG h93 hfd) (fun τ h => ?_)
  obtain ⟨h1, h2, h3, sl', x', hI', h94, hx', hJ⟩ := h
  have es := Isl.one (hI'.cg hl) hI
  have ex := Sol.uniq hN hI (hx'.cg hl es (fun _ _ => rfl)) hx
  refine ⟨h1, h2, h3, fun i hi => by rw [h94 i hi, es i hi], fun j hj => ?_⟩
  obtain ⟨a, b, c, d⟩ := hJ j hj
  exact ⟨a, b, by rw [c, es j hj], by rw [d, ex j hj]⟩
/-- a bit set against a set of lines -/
theorem y_flowOf (hN : NV N) {σ : St} (hG : MG (σ.1 88) N) {S : Int32} (hl : ∀ l, l < nL N → bt S l = lv l) (hI : IslN N lv sl) {x : Nat → Rat} (hJ : ∀ j, j < nB N → SvJ σ x sl j) (hb : ∀ l, l < nL N → ab (fl_ N lv x l) ≤ 495) {l : Nat} (hlt : l < nL N) :
    Ho (f_X6_flowOf (nI l) S σ) (fun q => q.2 = σ ∧ ((q.1.toInt : Int) : Rat) = fl_ N lv x l * (((σ.2 96 (eA N l)).toInt : Int) : Rat)) := by
  have hm := hN.2.2.1
  have hn := hN.2.1
  obtain ⟨q1, q2, q3, -⟩ := hG.2.2.2 l hlt
  obtain ⟨v1, v2, v3, s1, s2, -⟩ := hN.2.2.2.2 l hlt
  have L0 : f_X6_lineAt (nI l) (0 : Int32) σ = some (nI (eA N l), σ) := by rw [show (0 : Int32) = nI 0 from rfl, y_lineAt (by omega) (by omega), Nat.add_zero, q1]
  have L1 : f_X6_lineAt (nI l) (1 : Int32) σ = some (nI (eB N l), σ) := by rw [show (1 : Int32) = nI 1 from rfl, y_lineAt (by omega) (by omega), q2]
  have L2 : f_X6_lineAt (nI l) (2 : Int32) σ = some (iI (eS N l), σ) := by rw [show (2 : Int32) = nI 2 from rfl, y_lineAt (by omega) (by omega), q3]
  unfold f_X6_flowOf
  refine ho_be (y_has S (by omega)) ?_
  try dsimp only
  rw [hl l hlt]
  by_cases hv : lv l = true
  · rw [hv]
    refine ho_f (by decide) (ho_be L2 (ho_be L0 (ho_chk (ib_nI (by omega) (by omega)) (ho_be L1 (ho_chk (ib_nI (by omega) (by omega)) (ho_some ⟨rfl, ?_⟩))))))
    show (((iI (eS N l)).toInt64 * (σ.2 95 (nI (eA N l)).toNatClampNeg - σ.2 95 (nI (eB N l)).toNatClampNeg)).toInt : Rat) = _
    rw [nI31 (by omega), nI31 (by omega)]
    obtain ⟨a1, a2, a3, a4⟩ := hJ _ v1
    obtain ⟨b1, b2, b3, b4⟩ := hJ _ v2
    have eW : (σ.2 96 (eB N l)).toInt = (σ.2 96 (eA N l)).toInt := by rw [b3, a3, hI.2.1 l hlt hv]
    have hf := hb l hlt
    generalize (σ.2 96 (eA N l)).toInt = W at *
    rw [eW] at b4
    -- the exact value as an integer
    have ev : ((eS N l * ((σ.2 95 (eA N l)).toInt - (σ.2 95 (eB N l)).toInt) : Int) : Rat) = fl_ N lv x l * (W : Rat) := by
      unfold fl_
      rw [if_pos hv, Rat.intCast_mul, Rat.intCast_sub, a4, b4]
      grind
    have bd : (eS N l * ((σ.2 95 (eA N l)).toInt - (σ.2 95 (eB N l)).toInt)).natAbs ≤ 495 * 4084101 := by
      have w1 : ab (W : Rat) ≤ 4084101 := by
        rw [ab_int]
        have : (((W.natAbs : Nat) : Int) : Rat) ≤ ((4084101 : Int) : Rat) := Rat.intCast_le_intCast.mpr (by omega)
        exact this
      have w2 := mul_le2 hf w1 (ab_nn _) (by grind)
      rw [← ab_mul, ← ev, ab_int] at w2
      have w3 : (((eS N l * ((σ.2 95 (eA N l)).toInt - (σ.2 95 (eB N l)).toInt)).natAbs : Int) : Rat) ≤ ((495 * 4084101 : Int) : Rat) := by
        refine Rat.le_trans w2 ?_
        decide +kernel
      have := rat_le w3
      omega
    rw [← ev]
    have e0 : (iI (eS N l)).toInt64.toInt = eS N l := by rw [i2l_t, iI_t (by omega) (by omega)]
    have dd : ((σ.2 95 (eA N l)).toInt - (σ.2 95 (eB N l)).toInt).natAbs ≤ 495 * 4084101 := by
      rw [Int.natAbs_mul] at bd
      have : 1 * ((σ.2 95 (eA N l)).toInt - (σ.2 95 (eB N l)).toInt).natAbs ≤ (eS N l).natAbs * ((σ.2 95 (eA N l)).toInt - (σ.2 95 (eB N l)).toInt).natAbs := Nat.mul_le_mul_right _ (by omega)
      omega
    have e1 := fb_subL (x := σ.2 95 (eA N l)) (y := σ.2 95 (eB N l)) (by omega) (by omega)
    rw [fb_mulL (by rw [e0, e1]; omega) (by rw [e0, e1]; omega), e0, e1]
  · have hv' : lv l = false := by cases h : lv l; rfl; exact absurd h hv
    rw [hv']
    refine ho_t rfl (ho_some ⟨rfl, ?_⟩)
    unfold fl_
    rw [if_neg hv]
    show ((0 : Int) : Rat) = 0 * _
    grind
theorem fl_bd (hN : NV N) {f x : Nat → Rat} (hx : SolN N lv sl f x) (hf : ∀ i, i < nB N → ab (f i) ≤ 99) (hI : IslN N lv sl) : ∀ l, l < nL N → ab (fl_ N lv x l) ≤ 495 := by
  intro l hl
  unfold fl_
  by_cases hv : lv l = true
  · rw [if_pos hv]
    refine Rat.le_trans (Sol.flow hx hN.ab hN.s0 hl hv) ?_
    have h0 : sl 0 = 0 := by have := (hI.1 0 (by have := hN.1; omega)).1; omega
    have e1 : sm (fun i => if sl i = i then 0 else ab (f i)) (nB N) ≤ sm (fun i => if i = 0 then 0 else 99) (nB N) := sm_le (fun i hi => by
      try dsimp only
      by_cases w : sl i = i
      · rw [if_pos w]; split <;> grind
      · rw [if_neg w, if_neg (fun e => w (by rw [e, h0]))]; exact hf i hi)
    refine Rat.le_trans e1 ?_
    have h1 := hN.1
    have h2 := hN.2.1
    have : nB N = 2 ∨ nB N = 3 ∨ nB N = 4 ∨ nB N = 5 ∨ nB N = 6 := by omega
    rcases this with w | w | w | w | w <;> (rw [w]; decide +kernel)
  · rw [if_neg hv, ab_0]; decide +kernel
theorem fQ_bd (hN : NV N) : ∀ i, i < nB N → ab (fQ N i) ≤ 99 := fun i hi => by
  have h := hN.2.2.2.1 i (by have := hN.2.1; omega)
  rw [ab_int]
  have : (((eQ N i).natAbs : Int) : Rat) ≤ ((99 : Int) : Rat) := Rat.intCast_le_intCast.mpr (by omega)
  exact this
theorem pQ_bd (pl mi : Int32) : ∀ i, ab (pQ pl mi i) ≤ 99 := fun i => by
  have h := pvI_bd pl mi i
  rw [ab_int]
  have : (((pvI pl mi i).natAbs : Int) : Rat) ≤ ((99 : Int) : Rat) := Rat.intCast_le_intCast.mpr (by omega)
  exact this
/-- the feeds as told -/
theorem y_asTold (hN : NV N) {σ : St} (hG : MG (σ.1 88) N) : Ho (f_X6_asTold σ) (fun τ => Fr [93] σ τ ∧ ∀ i, i < nB N → (τ.2 93 i).toInt = eQ N i) := by
  have hn := hN.2.1
  have loop : ∀ (d i fuel : Nat) (τ : St), i + d = 6 → d < fuel → Fr [93] σ τ → (∀ j, j < i → (τ.2 93 j).toInt = eQ N j) → Ho (f_X6_asTold_2 (fun (σ9 : St) => some σ9) fuel (nI i) τ) (fun τ => Fr [93] σ τ ∧ ∀ i, i < nB N → (τ.2 93 i).toInt = eQ N i) := by
    intro d
    induction d with
    | zero =>
      intro i fuel τ hd hf hF h
      obtain ⟨fuel, rfl⟩ : ∃ f, fuel = f + 1 := ⟨fuel - 1, by omega⟩
      rw [f_X6_asTold_2]
      exact ho_t (nI_ge' (a := 6) (by omega) (by omega)) (ho_some ⟨hF, fun j hj => h j (by omega)⟩)
    | succ d ih =>
      intro i fuel τ hd hf hF h
      obtain ⟨fuel, rfl⟩ : ∃ f, fuel = f + 1 := ⟨fuel - 1, by omega⟩
      rw [f_X6_asTold_2, show ((2 : Int32) + nI i) = nI (2 + i) from nI_add 2 i, nI31 (k := 2 + i) (by omega), nI31 (k := i) (by omega), hF.i (i := 88) (by decide), hG.2.2.1 i (by omega)]
      refine ho_f (nI_nge' (a := 6) (by omega) (by omega)) (ho_chk (ib_nI (by omega) (by omega)) (ho_chk (ib_nI (by omega) (by omega)) (ho_nm ?_)))
      rw [nI_1]
      refine ih (i + 1) fuel _ (by omega) (by omega) (hF.sL (by decide)) (fun j hj => ?_)
      have hq := hN.2.2.2.1 i (by omega)
      by_cases e : j = i
      · rw [e, sL_at, i2l_t, iI_t (by omega) (by omega)]
      · rw [sL_off _ _ _ _ e]; exact h j (by omega)
  unfold f_X6_asTold
  exact loop 6 0 1000 σ (by omega) (by omega) Fr.refl (fun j hj => absurd hj (Nat.not_lt_zero j))
/-- one in, one out -/
theorem y_oneOf {σ : St} (p q : Int32) (hpq : p ≠ q) : Ho (f_X6_oneOf p q σ) (fun τ => Fr [93] σ τ ∧ ∀ i, i < 6 → (τ.2 93 i).toInt = pvI p q i) := by
  have loop : ∀ (d i fuel : Nat) (τ : St), i + d = 6 → d < fuel → Fr [93] σ τ → (∀ j, j < i → (τ.2 93 j).toInt = pvI p q j) → Ho (f_X6_oneOf_2 p q (fun (σ14 : St) => some σ14) fuel (nI i) τ) (fun τ => Fr [93] σ τ ∧ ∀ i, i < 6 → (τ.2 93 i).toInt = pvI p q i) := by
    intro d
    induction d with
    | zero =>
      intro i fuel τ hd hf hF h
      obtain ⟨fuel, rfl⟩ : ∃ f, fuel = f + 1 := ⟨fuel - 1, by omega⟩
      rw [f_X6_oneOf_2]
      exact ho_t (nI_ge' (a := 6) (by omega) (by omega)) (ho_some ⟨hF, fun j hj => h j (by omega)⟩)
    | succ d ih =>
      intro i fuel τ hd hf hF h
      obtain ⟨fuel, rfl⟩ : ∃ f, fuel = f + 1 := ⟨fuel - 1, by omega⟩
      have nx : ∀ v : Int64, v.toInt = pvI p q i → Ho (f_X6_oneOf_2 p q (fun (σ14 : St) => some σ14) fuel (nI i + 1) (sL τ 93 i v)) (fun τ => Fr [93] σ τ ∧ ∀ i, i < 6 → (τ.2 93 i).toInt = pvI p q i) := by
        intro v hv
        rw [nI_1]
        refine ih (i + 1) fuel _ (by omega) (by omega) (hF.sL (by decide)) (fun j hj => ?_)
        by_cases e : j = i
        · rw [e, sL_at]; exact hv
        · rw [sL_off _ _ _ _ e]; exact h j (by omega)
      rw [f_X6_oneOf_2, nI31 (k := i) (by omega)]
      refine ho_f (nI_nge' (a := 6) (by omega) (by omega)) (ho_if (fun c => ho_chk (ib_nI (by omega) (by omega)) (ho_nm (nx _ ?_))) (fun c => ho_if (fun c2 => ho_chk (ib_nI (by omega) (by omega)) (ho_nm (nx _ ?_))) (fun c2 => ho_chk (ib_nI (by omega) (by omega)) (ho_nm (nx _ ?_)))))
      · unfold pvI; rw [if_pos c, if_neg (fun w => hpq (c.symm.trans w))]; rfl
      · unfold pvI; rw [if_neg c, if_pos c2]; rfl
      · unfold pvI; rw [if_neg c, if_neg c2]; rfl
  unfold f_X6_oneOf
  exact loop 6 0 1000 σ (by omega) (by omega) Fr.refl (fun j hj => absurd hj (Nat.not_lt_zero j))
end Fl
