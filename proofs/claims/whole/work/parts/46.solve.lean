/-! the class: a state solved -/
section Sv
variable {N : Net} {lv : Nat → Bool} {sl : Nat → Nat} {pl mi : Int32}
theorem ej_bd (hN : NV N) (hI : IslN N lv sl) {k i c : Nat} (hk : k < nB N) (h : i < k + 1) (hc : k < c) : ab (ej (MxQ N lv sl pl mi) (k + 1) i c) ≤ 49500000000 := by
  have hn := hN.2.1
  have nn : ∀ d, ∀ r, 0 ≤ ab (MxQ N lv sl pl mi r d) := fun d r => ab_nn _
  have cl := fun d => cols hN hI pl mi d
  have cb1 : ∀ d, d < nB N → cB (nB N) d ≤ f1c d := fun d hd => by
    unfold cB f1c
    by_cases e : d = 0
    · rw [if_pos e, if_pos e]; exact Rat.le_refl
    · rw [if_neg e, if_neg e, if_pos hd]; exact Rat.le_refl
  have cb2 : ∀ d, cB (nB N) d ≤ 495 := fun d => by unfold cB; (repeat' split) <;> grind
  have f495 : ∀ d, d ≠ 0 → (495 : Rat) ≤ f1c d * (495 / 100) := fun d hd => by unfold f1c; rw [if_neg hd]; grind
  by_cases hs : sl i = i
  · have hp : ∀ t, 1 ≤ t → t ≤ k + 1 → dt t (MxQ N lv sl pl mi) ≠ 0 := fun t _ ht => by have := MxQ_pos hN hI pl mi (t := t) (by omega); grind
    obtain ⟨z, hz⟩ := dt_solve (n := k + 1) (M := MxQ N lv sl pl mi) (fun r => MxQ N lv sl pl mi r c) hp
    have e1 : ej (MxQ N lv sl pl mi) (k + 1) i c = z i * dt (k + 1) (MxQ N lv sl pl mi) := dt_cramer h hz
    have q := hz i h
    have e2 : MxQ N lv sl pl mi i c = 0 := by
      unfold MxQ MxI AmI
      by_cases hc3 : c < nB N
      · rw [if_pos hc3, if_pos hs, if_neg (show ¬ c = i by omega)]; rfl
      · rw [if_neg hc3, if_pos hs]; rfl
    rw [e2, sm_one h (fun j hj hne => by rw [MxQ_A lv sl pl mi (by omega)]; show Am _ _ _ _ _ _ _ _ * _ = 0; unfold Am; rw [if_pos hs, if_neg hne]; grind), MxQ_A lv sl pl mi (by omega)] at q
    have e3 : AmQ N lv sl i i = 1 := by show Am _ _ _ _ _ _ _ _ = 1; unfold Am; rw [if_pos hs, if_pos rfl]
    rw [e3] at q
    rw [e1, show z i = 0 by grind, show (0 : Rat) * dt (k + 1) (MxQ N lv sl pl mi) = 0 by grind, ab_0]
    grind
  · have hi0 : i ≠ 0 := fun e => hs (by have := (hI.1 0 (by omega)).1; rw [e]; omega)
    refine Rat.le_trans (dt_cols (k + 1) _) (prb (e := i) (by omega) (fun d hd => ⟨sm_nn (fun r _ => ab_nn _), ?_⟩))
    unfold cr
    by_cases e : d = i
    · rw [if_pos e]
      have q1 : sm (fun r => ab (if d = i then MxQ N lv sl pl mi r c else MxQ N lv sl pl mi r d)) (k + 1) = sm (fun r => ab (MxQ N lv sl pl mi r c)) (k + 1) := sm_congr (fun r _ => by rw [if_pos e])
      rw [q1]
      have q2 := sm_part (f := fun r => ab (MxQ N lv sl pl mi r c)) (t := k + 1) (n := nB N) (by omega) (nn c)
      have := cl c
      have := cb2 c
      have := f495 d (by omega)
      grind
    · rw [if_neg e]
      have q1 : sm (fun r => ab (if d = i then MxQ N lv sl pl mi r c else MxQ N lv sl pl mi r d)) (k + 1) = sm (fun r => ab (MxQ N lv sl pl mi r d)) (k + 1) := sm_congr (fun r _ => by rw [if_neg e])
      rw [q1]
      have q2 := sm_part (f := fun r => ab (MxQ N lv sl pl mi r d)) (t := k + 1) (n := nB N) (by omega) (nn d)
      have := cl d
      have := cb1 d (by omega)
      grind
/-- solutions are one -/
theorem Sol.uniq (hN : NV N) (hI : IslN N lv sl) {f x y : Nat → Rat} (hx : Sol (nB N) (nL N) (eA N) (eB N) (sR N) lv sl f x) (hy : Sol (nB N) (nL N) (eA N) (eB N) (sR N) lv sl f y) : ∀ i, i < nB N → x i = y i := by
  have hP := AmQ_PD hN hI
  have row : ∀ {z : Nat → Rat}, Sol (nB N) (nL N) (eA N) (eB N) (sR N) lv sl f z → ∀ i, i < nB N → sm (fun j => AmQ N lv sl i j * z j) (nB N) = if sl i = i then 0 else f i := by
    intro z hz i hi
    by_cases h : sl i = i
    · rw [if_pos h, sm_one hi (fun j _ hne => by show Am _ _ _ _ _ _ _ _ * _ = 0; unfold Am; rw [if_pos h, if_neg hne]; grind), hz.1 i hi h]
      grind
    · rw [if_neg h, ← hz.2 i hi h, ← La_row hN.ab z i]
      refine sm_congr (fun j hj => ?_)
      show Am _ _ _ _ _ _ _ _ * _ = _
      unfold Am
      rw [if_neg h]
      by_cases hj2 : sl j = j
      · rw [if_pos hj2, hz.1 j hj hj2]; grind
      · rw [if_neg hj2]
  intro i hi
  rcases Classical.em (x i = y i) with e | e
  · exact e
  · exfalso
    have h1 := hP.2 (fun j => x j - y j) ⟨i, hi, by grind⟩
    have h2 : qf (nB N) (AmQ N lv sl) (fun j => x j - y j) = 0 := by
      unfold qf
      refine sm_zero (fun r hr => ?_)
      have e1 : sm (fun j => (x r - y r) * AmQ N lv sl r j * (x j - y j)) (nB N) = (x r - y r) * (sm (fun j => AmQ N lv sl r j * x j) (nB N) + - sm (fun j => AmQ N lv sl r j * y j) (nB N)) := by
        rw [← sm_neg, ← sm_add, ← sm_mul]
        exact sm_congr (fun j _ => by grind)
      rw [e1, row hx r hr, row hy r hr]
      grind
    grind
abbrev SolN (N : Net) (lv : Nat → Bool) (sl : Nat → Nat) (f x : Nat → Rat) : Prop := Sol (nB N) (nL N) (eA N) (eB N) (sR N) lv sl f x
abbrev fQ (N : Net) : Nat → Rat := fun i => ((eQ N i : Int) : Rat)
abbrev pQ (pl mi : Int32) : Nat → Rat := fun i => ((pvI pl mi i : Int) : Rat)
/-- a line's flow -/
def fl_ (N : Net) (lv : Nat → Bool) (x : Nat → Rat) (l : Nat) : Rat := if lv l = true then sR N l * (x (eA N l) - x (eB N l)) else 0
/-- what Study holds behind solve -/
def SVc (σ : St) (N : Net) (lv : Nat → Bool) (x y : Nat → Rat) (W : Int) : Prop := (σ.2 6 7).toInt = W ∧ (∀ i, i < nB N → (((σ.2 16 i).toInt : Int) : Rat) = x i * (W : Rat) ∧ ((σ.2 16 i).toInt).natAbs ≤ 49500000000) ∧ (∀ l, l < nL N → (((σ.2 17 l).toInt : Int) : Rat) = fl_ N lv x l * (W : Rat)) ∧ ∀ l, l < nL N → (((σ.2 18 l).toInt : Int) : Rat) = fl_ N lv y l * (W : Rat)
theorem x_across (hN : NV N) {σ : St} (hG : CG σ 24 N) {c : Nat} (hc : c < 8) {X : Nat → Int} (hX : ∀ i, i < nB N → (σ.2 (10 + i) c).toInt = X i) (hb : ∀ i, i < nB N → (X i).natAbs ≤ 49500000000) {l : Nat} (hl : l < nL N) :
    Ho (f_X4_across (nI l) (nI c) σ) (fun q => q.2 = σ ∧ q.1.toInt = eS N l * (X (eA N l) - X (eB N l))) := by
  have hn := hN.2.1
  have hm := hN.2.2.1
  obtain ⟨q1, q2, q3, -⟩ := hG.2.2.2 l hl
  obtain ⟨v1, v2, v3, s1, s2, -⟩ := hN.2.2.2.2 l hl
  unfold f_X4_across
  rw [nI31 (by omega), nI31 (by omega), q1, q2, q3, nI31 (by omega), nI31 (by omega), rid, rid]
  refine ho_chk (ib_nI (by omega) (by omega)) (ho_chk (ib_nI (by omega) (by omega)) (ho_chk (ib_nI (by omega) (by omega)) (ho_chk (ib_nI (by omega) (by omega)) (ho_some ⟨rfl, ?_⟩))))
  have b1 := hb _ v1
  have b2 := hb _ v2
  have e1 : (σ.2 (10 + eA N l) c - σ.2 (10 + eB N l) c).toInt = X (eA N l) - X (eB N l) := by
    rw [fb_subL (by rw [hX _ v1, hX _ v2]; omega) (by rw [hX _ v1, hX _ v2]; omega), hX _ v1, hX _ v2]
  have e2 : (iI (eS N l)).toInt64.toInt = eS N l := by rw [i2l_t, iI_t (by omega) (by omega)]
  have p1 : (eS N l * (X (eA N l) - X (eB N l))).natAbs ≤ 5 * 99000000000 := by
    rw [Int.natAbs_mul]
    exact Nat.mul_le_mul (by omega) (by omega)
  show ((iI (eS N l)).toInt64 * (σ.2 (10 + eA N l) c - σ.2 (10 + eB N l) c)).toInt = _
  rw [fb_mulL (by rw [e1, e2]; omega) (by rw [e1, e2]; omega), e1, e2]
theorem x_readFlows (hN : NV N) (hI : IslN N lv sl) {σ : St} (hG : CG σ 24 N) (h7 : Lv7 σ N lv) {x y : Nat → Rat} {W : Int} (hW : (σ.2 6 7).toInt = W) {X Y : Nat → Int} (hX : ∀ i, i < nB N → (σ.2 (10 + i) (nB N)).toInt = X i ∧ (X i).natAbs ≤ 49500000000 ∧ ((X i : Int) : Rat) = x i * (W : Rat)) (hY : ∀ i, i < nB N → (σ.2 (10 + i) (nB N + 1)).toInt = Y i ∧ (Y i).natAbs ≤ 49500000000 ∧ ((Y i : Int) : Rat) = y i * (W : Rat)) :
    Ho (f_X4_readFlows σ) (fun τ => Fr [16, 17, 18] σ τ ∧ SVc τ N lv x y W) := by
  have hn := hN.2.1
  have hm := hN.2.2.1
  have cast : ∀ (Z : Nat → Int) (z : Nat → Rat), (∀ i, i < nB N → ((Z i : Int) : Rat) = z i * (W : Rat)) → ∀ l, l < nL N → lv l = true → ((eS N l * (Z (eA N l) - Z (eB N l)) : Int) : Rat) = fl_ N lv z l * (W : Rat) := by
    intro Z z hZ l hl hv
    obtain ⟨v1, v2, -⟩ := hN.2.2.2.2 l hl
    unfold fl_
    rw [if_pos hv, Rat.intCast_mul, Rat.intCast_sub, hZ _ v1, hZ _ v2]
    grind
  have loop2 : ∀ (d l fuel : Nat) (τ : St), l + d = nL N → d < fuel → Fr [16, 17, 18] σ τ → (∀ i, i < nB N → (((τ.2 16 i).toInt : Int) : Rat) = x i * (W : Rat) ∧ ((τ.2 16 i).toInt).natAbs ≤ 49500000000) → (∀ q, q < l → (((τ.2 17 q).toInt : Int) : Rat) = fl_ N lv x q * (W : Rat) ∧ (((τ.2 18 q).toInt : Int) : Rat) = fl_ N lv y q * (W : Rat)) → Ho (f_X4_readFlows_37 (nI (nB N)) (fun (σ26 : St) => some σ26) fuel (nI l) τ) (fun τ => Fr [16, 17, 18] σ τ ∧ SVc τ N lv x y W) := by
    intro d
    induction d with
    | zero =>
      intro l fuel τ hid hf hF h16 h
      obtain ⟨fuel, rfl⟩ : ∃ f, fuel = f + 1 := ⟨fuel - 1, by omega⟩
      rw [f_X4_readFlows_37, hF.i (i := 24) (by decide), hG.2.1]
      refine ho_t (nI_ge' (by omega) (by omega)) (ho_some ⟨hF, ?_, h16, fun q hq => (h q (by omega)).1, fun q hq => (h q (by omega)).2⟩)
      rw [hF.l (i := 6) (by decide)]; exact hW
    | succ d ih =>
      intro l fuel τ hid hf hF h16 h
      obtain ⟨fuel, rfl⟩ : ∃ f, fuel = f + 1 := ⟨fuel - 1, by omega⟩
      have hlm : l < nL N := by omega
      rw [f_X4_readFlows_37, hF.i (i := 24) (by decide), hG.2.1, nI31 (by omega)]
      refine ho_f (nI_nge' (by omega) (by omega)) (ho_chk (ib_nI (by omega) (by omega)) (ho_jn ?_))
      dsimp only
      have step : ∀ (v : Int64) (w : Int64) (τ' : St), τ'.1 = τ.1 → Fr [16, 17, 18] σ τ' → τ'.2 16 = τ.2 16 → (∀ q, q ≠ l → τ'.2 17 q = τ.2 17 q ∧ τ'.2 18 q = τ.2 18 q) → ((τ'.2 17 l).toInt : Rat) = fl_ N lv x l * (W : Rat) → ((τ'.2 18 l).toInt : Rat) = fl_ N lv y l * (W : Rat) → Ho (f_X4_readFlows_37 (nI (nB N)) (fun (σ26 : St) => some σ26) fuel (nI l + 1) τ') (fun τ => Fr [16, 17, 18] σ τ ∧ SVc τ N lv x y W) := by
        intro v w τ' e1 hF' e16 eq h17 h18
        rw [nI_1]
        refine ih (l + 1) fuel τ' (by omega) (by omega) hF' (fun i hi => by rw [e16]; exact h16 i hi) (fun q hq => ?_)
        by_cases e : q = l
        · rw [e]; exact ⟨h17, h18⟩
        · rw [(eq q e).1, (eq q e).2]; exact h q (by omega)
      rw [hF.i (i := 7) (by decide), h7 l hlm]
      by_cases hv : lv l = true
      · refine ho_f (by rw [hv]; decide) ?_
        have gr : ∀ {τ : St}, Fr [16, 17, 18] σ τ → ∀ i, i < nB N → τ.2 (10 + i) = σ.2 (10 + i) := fun hF i hi => hF.l (by simp; omega)
        refine ho_bind (x_across hN (hG.fr hF (by decide)) (c := nB N) (by omega) (X := X) (fun i hi => by rw [gr hF i hi]; exact (hX i hi).1) (fun i hi => (hX i hi).2.1) hlm) (fun q hq => ho_nm ?_)
        obtain ⟨e1, e2⟩ := hq
        rw [e1]
        rw [sL_1, hF.i (i := 7) (by decide), h7 l hlm]
        refine ho_f (by rw [hv]; decide) ?_
        rw [show nI (nB N) + (1 : Int32) = nI (nB N + 1) from nI_1 _]
        have hF1 : Fr [16, 17, 18] σ (sL τ 17 l q.1) := hF.sL (by decide)
        refine ho_bind (x_across hN (hG.fr hF1 (by decide)) (c := nB N + 1) (by omega) (X := Y) (fun i hi => by rw [gr hF1 i hi]; exact (hY i hi).1) (fun i hi => (hY i hi).2.1) hlm) (fun q' hq' => ho_nm ?_)
        obtain ⟨e3, e4⟩ := hq'
        rw [e3]
        refine step 0 0 _ rfl (hF1.sL (by decide)) ?_ (fun z hz => ⟨?_, ?_⟩) ?_ ?_
        · rw [sL_ne _ _ _ (by decide), sL_ne _ _ _ (by decide)]
        · rw [sL_ne _ _ _ (by decide), sL_off _ _ _ _ hz]
        · rw [sL_off _ _ _ _ hz, sL_ne _ _ _ (by decide)]
        · rw [sL_ne _ _ _ (by decide), sL_at, e2]
          exact cast X x (fun i hi => (hX i hi).2.2) l hlm hv
        · rw [sL_at, e4]
          exact cast Y y (fun i hi => (hY i hi).2.2) l hlm hv
      · have hv' : lv l = false := by cases h : lv l; rfl; exact absurd h hv
        refine ho_t (by rw [hv']; rfl) (ho_nm ?_)
        rw [sL_1, hF.i (i := 7) (by decide), h7 l hlm]
        refine ho_t (by rw [hv']; rfl) (ho_nm ?_)
        have z0 : ∀ z : Nat → Rat, (((0 : Int64).toInt : Int) : Rat) = fl_ N lv z l * (W : Rat) := fun z => by
          unfold fl_
          rw [if_neg hv]
          show (0 : Rat) = 0 * _
          grind
        refine step 0 0 _ rfl ((hF.sL (by decide)).sL (by decide)) ?_ (fun z hz => ⟨?_, ?_⟩) ?_ ?_
        · rw [sL_ne _ _ _ (by decide), sL_ne _ _ _ (by decide)]
        · rw [sL_ne _ _ _ (by decide), sL_off _ _ _ _ hz]
        · rw [sL_off _ _ _ _ hz, sL_ne _ _ _ (by decide)]
        · rw [sL_ne _ _ _ (by decide), sL_at]; exact z0 x
        · rw [sL_at]; exact z0 y
  have loop1 : ∀ (d i fuel : Nat) (τ : St), i + d = nB N → d < fuel → Fr [16, 17, 18] σ τ → (∀ j, j < i → (((τ.2 16 j).toInt : Int) : Rat) = x j * (W : Rat) ∧ ((τ.2 16 j).toInt).natAbs ≤ 49500000000) → Ho (f_X4_readFlows_10 (nI (nB N)) (fun (σ10 : St) => f_X4_readFlows_37 (nI (nB N)) (fun (σ26 : St) => some σ26) 1000 (0 : Int32) σ10) fuel (nI i) τ) (fun τ => Fr [16, 17, 18] σ τ ∧ SVc τ N lv x y W) := by
    intro d
    induction d with
    | zero =>
      intro i fuel τ hid hf hF h16
      obtain ⟨fuel, rfl⟩ : ∃ f, fuel = f + 1 := ⟨fuel - 1, by omega⟩
      rw [f_X4_readFlows_10]
      exact ho_t (nI_ge' (by omega) (by omega)) (loop2 (nL N) 0 1000 τ (by omega) (by omega) hF (fun j hj => h16 j (by omega)) (fun q hq => absurd hq (Nat.not_lt_zero q)))
    | succ d ih =>
      intro i fuel τ hid hf hF h16
      obtain ⟨fuel, rfl⟩ : ∃ f, fuel = f + 1 := ⟨fuel - 1, by omega⟩
      rw [f_X4_readFlows_10]
      refine ho_f (nI_nge' (by omega) (by omega)) (ho_chk (ib_nI (by omega) (by omega)) (ho_chk (ib_nI (by omega) (by omega)) (ho_nm ?_)))
      rw [nI31 (by omega), nI31 (by omega), rid, nI_1]
      refine ih (i + 1) fuel _ (by omega) (by omega) (hF.sL (by decide)) (fun j hj => ?_)
      by_cases e : j = i
      · rw [e, sL_at, hF.l (i := 10 + i) (by simp; omega), (hX i (by omega)).1]
        exact ⟨(hX i (by omega)).2.2, (hX i (by omega)).2.1⟩
      · rw [sL_off _ _ _ _ e]; exact h16 j (by omega)
  unfold f_X4_readFlows
  refine ho_nm ?_
  rw [hG.1]
  exact loop1 (nB N) 0 1000 σ (by omega) (by omega) Fr.refl (fun j hj => absurd hj (Nat.not_lt_zero j))
def WS : List Nat := [6, 10, 11, 12, 13, 14, 15, 16, 17, 18]
theorem x_solve (hN : NV N) (hI : IslN N lv sl) {σ : St} (hG : CG σ 24 N) (h7 : Lv7 σ N lv) (h8 : ∀ i, i < nB N → σ.1 8 i = nI (sl i)) (pl mi : Int32) :
    Ho (f_X4_solve pl mi σ) (fun τ => Fr WS σ τ ∧ (∀ k, k ≠ 7 → τ.2 6 k = σ.2 6 k) ∧ τ.1 6 = σ.1 6 ∧ ∃ (x y : Nat → Rat) (W : Int), (W : Rat) = dt (nB N) (AmQ N lv sl) ∧ SolN N lv sl (fQ N) x ∧ SolN N lv sl (pQ pl mi) y ∧ SVc τ N lv x y W) := by
  have hn := hN.2.1
  have hn2 := hN.1
  have hm := hN.2.2.1
  have hsl : ∀ i, i < nB N → sl i < nB N := fun i hi => hI.lt hi
  unfold f_X4_solve
  refine x_fill (lv := lv) (sl := sl) hN hG h8 hsl pl mi (fun τ1 F1 R1 => ?_) (nB N) 0 1000 σ (by omega) (by omega) Fr.refl (fun j hj => absurd hj (Nat.not_lt_zero j))
  refine x_lines (lv := lv) (sl := sl) hN (hG.fr F1 (by decide)) (fun l hl => by rw [F1.i (i := 7) (by decide)]; exact h7 l hl) (fun i hi => by rw [F1.i (i := 8) (by decide)]; exact h8 i hi) hsl pl mi (fun τ2 F2 R2 => ?_) (nL N) 0 1000 τ1 (by omega) (by omega) Fr.refl R1
  have F12 := F1.trans F2
  refine ho_bind (x_eliminate (pl := pl) (mi := mi) hN hI (hG.fr F12 (by decide)) R2) (fun τ3 h3 => ?_)
  obtain ⟨F3, k3, k31, E3⟩ := h3
  have F13 : Fr (6 :: r6) σ τ3 := (F12.mono (by decide)).trans F3
  obtain ⟨x, hx, hSx⟩ := Sol.ex hI hN.ab hN.s0 (fQ N)
  obtain ⟨y, hy, hSy⟩ := Sol.ex hI hN.ab hN.s0 (pQ pl mi)
  have colx : ∀ r, MxQ N lv sl pl mi r (nB N) = if sl r = r then 0 else fQ N r := fun r => by
    unfold MxQ MxI
    rw [if_neg (Nat.lt_irrefl _)]
    split
    · rfl
    · rw [if_pos rfl]
  have coly : ∀ r, MxQ N lv sl pl mi r (nB N + 1) = if sl r = r then 0 else pQ pl mi r := fun r => by
    unfold MxQ MxI
    rw [if_neg (by omega)]
    split
    · rfl
    · rw [if_neg (by omega)]
  have key : ∀ (c : Nat) (z : Nat → Rat), nB N ≤ c → c < nB N + 2 → (∀ r, r < nB N → sm (fun j => AmQ N lv sl r j * z j) (nB N) = MxQ N lv sl pl mi r c) → ∀ i, i < nB N → ((τ3.2 (10 + i) c).toInt).natAbs ≤ 49500000000 ∧ (((τ3.2 (10 + i) c).toInt : Int) : Rat) = z i * (((τ3.2 6 7).toInt : Int) : Rat) := by
    intro c z hc hc2 hz i hi
    have e := E3.2 i hi c hc hc2
    unfold Vg at e
    rw [if_pos hi] at e
    have e2 : ej (MxQ N lv sl pl mi) (nB N) i c = z i * dt (nB N) (MxQ N lv sl pl mi) := dt_cramer hi (fun r hr => by rw [← hz r hr]; exact sm_congr (fun j hj => by rw [MxQ_A lv sl pl mi hj]))
    refine ⟨?_, by rw [e, e2, E3.1]⟩
    obtain ⟨n', hn'⟩ : ∃ n', nB N = n' + 1 := ⟨nB N - 1, by omega⟩
    have b := ej_bd (pl := pl) (mi := mi) hN hI (k := n') (i := i) (c := c) (by omega) (by omega) (by omega)
    rw [← hn', ← e, ab_int] at b
    have : ((((τ3.2 (10 + i) c).toInt).natAbs : Int) : Rat) ≤ ((49500000000 : Int) : Rat) := b
    have := rat_le this
    omega
  refine ho_bind (x_readFlows (x := x) (y := y) (W := (τ3.2 6 7).toInt) hN hI (hG.fr F13 (by decide)) (fun l hl => by rw [F13.i (i := 7) (by decide)]; exact h7 l hl) rfl (X := fun i => (τ3.2 (10 + i) (nB N)).toInt) (Y := fun i => (τ3.2 (10 + i) (nB N + 1)).toInt) (fun i hi => ⟨rfl, key (nB N) x (Nat.le_refl _) (by omega) (fun r hr => by rw [colx]; exact hx r hr) i hi⟩) (fun i hi => ⟨rfl, key (nB N + 1) y (by omega) (by omega) (fun r hr => by rw [coly]; exact hy r hr) i hi⟩)) (fun τ4 h4 => ho_some ?_)
  obtain ⟨F4, S4⟩ := h4
  refine ⟨(F13.mono (by decide)).trans (F4.mono (by decide)), fun k hk => ?_, ?_, x, y, (τ3.2 6 7).toInt, ?_, hSx, hSy, S4⟩
  · rw [F4.l (i := 6) (by decide), k3 k hk, F12.l (i := 6) (by decide)]
  · rw [F4.i (i := 6) (by decide), k31, F12.i (i := 6) (by decide)]
  · rw [E3.1, MxQ_dt lv sl pl mi (Nat.le_refl _)]
end Sv
