/-! the reference: treesOf, solves -/
theorem smm_le {n M : Nat} {me : Nat → Nat} {f : Nat → Rat} (hI : Inc n M me) (hf : ∀ i, 0 ≤ f i) : sm (fun k => f (me k)) M ≤ sm f n := by
  classical
  have h := sm_mem (f := fun j => if (∃ k, k < M ∧ me k = j) then f j else 0) hI (fun j _ hne => if_neg (fun ⟨k, hk, e⟩ => hne k hk e))
  have e1 : sm (fun k => if (∃ k', k' < M ∧ me k' = me k) then f (me k) else 0) M = sm (fun k => f (me k)) M := sm_congr (fun k hk => if_pos ⟨k, hk, rfl⟩)
  rw [e1] at h
  rw [← h]
  refine sm_le (fun k _ => ?_)
  try dsimp only
  split
  · exact Rat.le_refl
  · exact hf k
theorem isl_le {N : Net} (hN : NV N) {lv : Nat → Bool} {sl : Nat → Nat} (hI : IslN N lv sl) {root M : Nat} {me : Nat → Nat} (hM : Mem (nB N) sl root M me) (hM5 : M ≤ 5) : dt M (fun r c => La (nL N) (eA N) (eB N) (sR N) lv (me r) (me c)) ≤ 4084101 := by
  have hP := Mem.PD hI hN.ab hN.s0 hM
  have h1 := hP.dle (Nat.le_refl M)
  refine Rat.le_trans h1 ?_
  have h2 := pr_head (fun k => if k = 0 then (1 : Rat) else La (nL N) (eA N) (eB N) (sR N) lv (me (k - 1)) (me (k - 1))) M
  have e2 : pr (fun k => (fun k => if k = 0 then (1 : Rat) else La (nL N) (eA N) (eB N) (sR N) lv (me (k - 1)) (me (k - 1))) (k + 1)) M = pr (fun i => La (nL N) (eA N) (eB N) (sR N) lv (me i) (me i)) M := pr_congr (fun k _ => by (try dsimp only); rw [if_neg (by omega), Nat.add_sub_cancel])
  rw [e2, if_pos rfl] at h2
  have h3 : pr (fun k => if k = 0 then (1 : Rat) else La (nL N) (eA N) (eB N) (sR N) lv (me (k - 1)) (me (k - 1))) (M + 1) ≤ 4084101 := by
    refine pr6 (by omega) (if_pos rfl) (fun i hi => ?_) ?_ (by omega)
    · try dsimp only
      split
      · decide
      · have := hP.diag (i := i - 1) (by omega)
        try dsimp only at this
        grind
    · rw [sm_head, if_pos rfl]
      have e3 : sm (fun k => if k + 1 = 0 then (1 : Rat) else La (nL N) (eA N) (eB N) (sR N) lv (me (k + 1 - 1)) (me (k + 1 - 1))) M = sm (fun k => La (nL N) (eA N) (eB N) (sR N) lv (me k) (me k)) M := sm_congr (fun k _ => by rw [if_neg (by omega), Nat.add_sub_cancel])
      rw [e3]
      have h4 := La_tr (n := nB N) (lv := lv) hN.ab3 hN.2.2.1 hN.s
      have nn : ∀ i, 0 ≤ La (nL N) (eA N) (eB N) (sR N) lv i i := fun i => sm_nn (fun l hl => by
        split
        · have a := (hN.s l hl).1
          have b := sq_nn (ds (eA N) (eB N) l i)
          have c := Rat.mul_nonneg (show 0 ≤ sR N l by grind) b
          grind
        · exact Rat.le_refl)
      have h5 := smm_le hM.1 nn
      have h6 : (1 : Rat) + sm (fun k => La (nL N) (eA N) (eB N) (sR N) lv (me k) (me k)) M ≤ 101 := by grind
      refine Rat.le_trans h6 ?_
      have : M = 0 ∨ M = 1 ∨ M = 2 ∨ M = 3 ∨ M = 4 ∨ M = 5 := by omega
      rcases this with w | w | w | w | w | w <;> (subst w; decide +kernel)
  grind
section Sv
variable {N : Net} {S : Int32} {sl : Nat → Nat}
abbrev lvS (S : Int32) : Nat → Bool := fun l => bt S l
abbrev LaS (N : Net) (S : Int32) : Nat → Nat → Rat := La (nL N) (eA N) (eB N) (sR N) (lvS S)
theorem sq_cols (hN : NV N) {M : Nat} {me : Nat → Nat} (hInc : Inc (nB N) M me) (hM5 : M ≤ 5) {fd : Nat → Int} (hfd : ∀ i, i < nB N → -99 ≤ fd i ∧ fd i ≤ 99) {col : Int32} {e : Nat} (hcol : ∀ c, c < M → nI c = col → c = e) : ∀ c, c < M → sm (fun r => ab ((sqI N S me fd col r c : Int) : Rat)) M ≤ bd5 e c := by
  intro c hc
  by_cases h : nI c = col
  · rw [hcol c hc h]
    unfold bd5
    rw [if_pos rfl, ← hcol c hc h]
    have e1 : sm (fun r => ab ((sqI N S me fd col r c : Int) : Rat)) M ≤ sm (fun _ => 99) M := sm_le (fun r hr => by
      unfold sqI
      rw [if_pos h, ab_int]
      have := hfd (me r) (hInc.1 r hr)
      have q : ((((fd (me r)).natAbs : Nat) : Int) : Rat) ≤ ((99 : Int) : Rat) := Rat.intCast_le_intCast.mpr (by omega)
      exact q)
    refine Rat.le_trans e1 ?_
    rw [sm_const]
    have : M = 0 ∨ M = 1 ∨ M = 2 ∨ M = 3 ∨ M = 4 ∨ M = 5 := by omega
    rcases this with w | w | w | w | w | w <;> (subst w; decide +kernel)
  · have e1 : sm (fun r => ab ((sqI N S me fd col r c : Int) : Rat)) M = sm (fun r => ab (LaS N S (me r) (me c))) M := sm_congr (fun r hr => by unfold sqI; rw [if_neg h, LaI_cast])
    rw [e1]
    have q1 := smm_le (f := fun i => ab (LaS N S i (me c))) hInc (fun i => ab_nn _)
    have q2 := La_col (lv := lvS S) hN.ab hN.2.2.1 hN.s (me c)
    have q3 : (100 : Rat) ≤ bd5 e c := by unfold bd5; split <;> grind
    exact Rat.le_trans q1 (Rat.le_trans q2 q3)
theorem y_treesOf (hN : NV N) {σ : St} (hG : MG (σ.1 88) N) (hI : IslN N (lvS S) sl) (h94 : ∀ i, i < nB N → σ.1 94 i = nI (sl i)) {root : Nat} (hr : root < nB N) :
    Ho (f_X6_treesOf S (nI root) σ) (fun q => Fr [87, 97, 98] σ q.2 ∧ (∀ k, k ≠ 14 → q.2.1 87 k = σ.1 87 k) ∧ q.2.2 87 = σ.2 87 ∧ ∃ M me, Mem (nB N) sl root M me ∧ MeS q.2 N M me ∧ ((q.1.toInt : Int) : Rat) = dt M (fun r c => LaS N S (me r) (me c))) := by
  unfold f_X6_treesOf
  refine ho_bind (y_gathers hN hG hI h94 hr) (fun τ hτ => ?_)
  obtain ⟨gF, g87, g2, M, me, hM, hM5, h14, h98⟩ := hτ
  have hS : MeS τ N M me := ⟨hM5, hM.1, h14, h98⟩
  refine ho_bind (y_laysSquare (fd := fun i => (τ.2 93 i).toInt) hN (by rw [gF.i (i := 88) (by decide)]; exact hG) hS (fun i _ => rfl)) (fun υ hυ => ?_)
  obtain ⟨u1, uF, uC⟩ := hυ
  have nc : ∀ c, c < M → ¬ nI c = (-1 : Int32) := fun c hc w => by
    have := congrArg Int32.toInt w
    rw [nI_t (by omega)] at this
    have q : (-1 : Int32).toInt = -1 := rfl
    omega
  refine ho_bind (y_determinant (e := 6) hM5 (by rw [u1]; exact h14) uC ?_) (fun q hq => ?_)
  · intro c hc
    have e1 : sm (fun r => ab ((sqI N S me (fun i => (τ.2 93 i).toInt) (-1 : Int32) r c : Int) : Rat)) M = sm (fun r => ab ((sqI N S me (fun _ => 0) (-1 : Int32) r c : Int) : Rat)) M := sm_congr (fun r _ => by unfold sqI; rw [if_neg (nc c hc), if_neg (nc c hc)])
    rw [e1]
    exact sq_cols hN hM.1 hM5 (fun _ _ => by omega) (fun c hc w => absurd w (nc c hc)) c hc
  · obtain ⟨q1, qF, q2⟩ := hq
    refine ho_some ⟨?_, fun k hk => ?_, ?_, M, me, hM, ⟨hM5, hM.1, ?_, ?_⟩, ?_⟩
    · exact ((gF.mono (by decide)).trans (uF.mono (by decide))).trans (qF.mono (by decide))
    · show q.2.1 87 k = _
      rw [q2, u1]; exact g87 k hk
    · show q.2.2 87 = _
      rw [qF.l (i := 87) (by decide), uF.l (i := 87) (by decide), g2]
    · show q.2.1 87 14 = _
      rw [q2, u1]; exact h14
    · show ∀ k, k < M → q.2.1 98 k = _
      rw [q2, u1]; exact h98
    · show ((q.1.toInt : Int) : Rat) = _
      rw [q1]
      exact dt_congr (fun r c hr hc => by unfold sqI; rw [if_neg (nc c hc), LaI_cast])
/-- what solves leaves for bus j -/
def SvJ (τ : St) (x : Nat → Rat) (sl : Nat → Nat) (j : Nat) : Prop := 0 < (τ.2 96 j).toInt ∧ (τ.2 96 j).toInt ≤ 4084101 ∧ (τ.2 96 j).toInt = (τ.2 96 (sl j)).toInt ∧ (((τ.2 95 j).toInt : Int) : Rat) = x j * (((τ.2 96 j).toInt : Int) : Rat)
theorem y_s51 (hN : NV N) {σ : St} (hG : MG (σ.1 88) N) (hI : IslN N (lvS S) sl) {fd : Nat → Int} (h93 : ∀ i, i < nB N → (σ.2 93 i).toInt = fd i) (hfd : ∀ i, i < nB N → -99 ≤ fd i ∧ fd i ≤ 99) {x : Nat → Rat} (hS : SolN N (lvS S) sl (fun i => ((fd i : Int) : Rat)) x) {root M : Nat} {me : Nat → Nat} (hM : Mem (nB N) sl root M me) (hMe : MeS σ N M me) {q9 : Int64 × St} {x2 : Int32} (hW : ((q9.1.toInt : Int) : Rat) = dt M (fun r c => LaS N S (me r) (me c)))
    {K : St → Option St} {Q : St → Prop} (hK : ∀ τ : St, τ.1 = σ.1 → Fr [95, 96, 97] σ τ → (∀ k, k < M → τ.2 96 (me k) = q9.1 ∧ (((τ.2 95 (me k)).toInt : Int) : Rat) = x (me k) * ((q9.1.toInt : Int) : Rat)) → (∀ j, (∀ k, k < M → me k ≠ j) → τ.2 95 j = σ.2 95 j ∧ τ.2 96 j = σ.2 96 j) → Ho (K τ) Q) :
    ∀ (d t fuel : Nat) (τ : St), t + d = M → d < fuel → τ.1 = σ.1 → Fr [95, 96, 97] σ τ → (∀ k, k < t → τ.2 96 (me k) = q9.1 ∧ (((τ.2 95 (me k)).toInt : Int) : Rat) = x (me k) * ((q9.1.toInt : Int) : Rat)) → (∀ j, (∀ k, k < M → me k ≠ j) → τ.2 95 j = σ.2 95 j ∧ τ.2 96 j = σ.2 96 j) → Ho (f_X6_solves_51 S x2 q9 K fuel (nI t) τ) Q := by
  obtain ⟨hM5, hInc, h14, h98⟩ := hMe
  have hn := hN.2.1
  intro d
  induction d with
  | zero =>
    intro t fuel τ hd hf h1 hF hC hO
    obtain ⟨fuel, rfl⟩ : ∃ f, fuel = f + 1 := ⟨fuel - 1, by omega⟩
    have ek : t = M := by omega
    subst ek
    rw [f_X6_solves_51, h1, h14]
    exact ho_t (nI_ge' (Nat.le_refl _) (by omega)) (hK τ h1 hF hC hO)
  | succ d ih =>
    intro t fuel τ hd hf h1 hF hC hO
    obtain ⟨fuel, rfl⟩ : ∃ f, fuel = f + 1 := ⟨fuel - 1, by omega⟩
    have htM : t < M := by omega
    have mt := hInc.1 t htM
    rw [f_X6_solves_51, h1, h14, nI31 (k := t) (by omega)]
    refine ho_f (nI_nge' (by omega) (by omega)) ?_
    refine ho_bind (y_laysSquare (fd := fd) hN (by rw [h1]; exact hG) ⟨hM5, hInc, by rw [h1]; exact h14, by rw [h1]; exact h98⟩ (fun i hi => by rw [hF.l (i := 93) (by decide)]; exact h93 i hi)) (fun υ hυ => ?_)
    obtain ⟨u1, uF, uC⟩ := hυ
    have v1 := u1.trans h1
    refine ho_chk (ib_nI (by omega) (by omega)) ?_
    refine ho_bind (y_determinant (e := t) hM5 (by rw [v1]; exact h14) uC (sq_cols hN hInc hM5 hfd (fun c hc w => nI_inj (by omega) (by omega) w))) (fun q hq => ?_)
    obtain ⟨q1, qF, q2⟩ := hq
    try dsimp only
    rw [v1, h98 t htM, nI31 (k := me t) (by omega)]
    refine ho_chk (ib_nI (by omega) (by omega)) (ho_nm ?_)
    rw [sL_1, q2, v1, h98 t htM, nI31 (k := me t) (by omega)]
    refine ho_chk (ib_nI (by omega) (by omega)) (ho_nm ?_)
    rw [nI_1]
    have hval : ((q.1.toInt : Int) : Rat) = x (me t) * ((q9.1.toInt : Int) : Rat) := by
      rw [q1, hW, ← dt_cramer (M := fun r c => LaS N S (me r) (me c)) (x := fun c => x (me c)) htM (hS.mem hI hN.ab hM)]
      refine dt_congr (fun r c hr hc => ?_)
      unfold cr sqI
      by_cases w : c = t
      · rw [if_pos w, if_pos (by rw [w])]
      · rw [if_neg w, if_neg (nI_ne w (by omega) (by omega)), LaI_cast]
    have F2 : Fr [95, 96, 97] σ q.2 := (hF.trans (uF.mono (by decide))).trans (qF.mono (by decide))
    have l95 : q.2.2 95 = τ.2 95 := by rw [qF.l (i := 95) (by decide), uF.l (i := 95) (by decide)]
    have l96 : q.2.2 96 = τ.2 96 := by rw [qF.l (i := 96) (by decide), uF.l (i := 96) (by decide)]
    have a95 : ∀ j, (sL (sL q.2 95 (me t) q.1) 96 (me t) q9.1).2 95 j = if j = me t then q.1 else τ.2 95 j := fun j => by
      rw [sL_ne _ _ _ (show 95 ≠ 96 by decide)]
      by_cases w : j = me t
      · rw [if_pos w, w, sL_at]
      · rw [if_neg w, sL_off _ _ _ _ w, l95]
    have a96 : ∀ j, (sL (sL q.2 95 (me t) q.1) 96 (me t) q9.1).2 96 j = if j = me t then q9.1 else τ.2 96 j := fun j => by
      by_cases w : j = me t
      · rw [if_pos w, w, sL_at]
      · rw [if_neg w, sL_off _ _ _ _ w, sL_ne _ _ _ (show 96 ≠ 95 by decide), l96]
    refine ih (t + 1) fuel _ (by omega) (by omega) (by rw [sL_1, sL_1, q2, v1]) ((F2.sL (by decide)).sL (by decide)) (fun k hk => ?_) (fun j hj => ?_)
    · rw [a95, a96]
      by_cases w : k = t
      · rw [w, if_pos rfl, if_pos rfl]; exact ⟨rfl, hval⟩
      · have w' : me k ≠ me t := fun e => w (hInc.inj (by omega) htM e)
        rw [if_neg w', if_neg w']; exact hC k (by omega)
    · rw [a95, a96]
      have w' : j ≠ me t := fun e => hj t htM e.symm
      rw [if_neg w', if_neg w']; exact hO j hj
/-- all of solves -/
theorem y_solves (hN : NV N) {σ : St} (hG : MG (σ.1 88) N) {fd : Nat → Int} (h93 : ∀ i, i < nB N → (σ.2 93 i).toInt = fd i) (hfd : ∀ i, i < nB N → -99 ≤ fd i ∧ fd i ≤ 99) :
    Ho (f_X6_solves S σ) (fun τ => Fr [87, 94, 95, 96, 97, 98] σ τ ∧ (∀ k, k ≠ 14 → τ.1 87 k = σ.1 87 k) ∧ τ.2 87 = σ.2 87 ∧ ∃ sl x, IslN N (lvS S) sl ∧ (∀ i, i < nB N → τ.1 94 i = nI (sl i)) ∧ SolN N (lvS S) sl (fun i => ((fd i : Int) : Rat)) x ∧ ∀ j, j < nB N → SvJ τ x sl j) := by
  have hn := hN.2.1
  unfold f_X6_solves
  refine ho_bind (y_parts hN hG S) (fun σ1 hσ1 => ?_)
  obtain ⟨pF, sl, hI, h94⟩ := hσ1
  obtain ⟨x, -, hS⟩ := Sol.ex hI hN.ab hN.s0 (fun i => ((fd i : Int) : Rat))
  have loop : ∀ (d i fuel : Nat) (τ : St), i + d = nB N → d < fuel → Fr [87, 95, 96, 97, 98] σ1 τ → (∀ k, k ≠ 14 → τ.1 87 k = σ.1 87 k) → τ.2 87 = σ.2 87 → (∀ j, j < nB N → sl j < i → SvJ τ x sl j) → Ho (f_X6_solves_7 S (fun (σ25 : St) => some σ25) fuel (nI i) τ) (fun τ => Fr [87, 94, 95, 96, 97, 98] σ τ ∧ (∀ k, k ≠ 14 → τ.1 87 k = σ.1 87 k) ∧ τ.2 87 = σ.2 87 ∧ ∃ sl x, IslN N (lvS S) sl ∧ (∀ i, i < nB N → τ.1 94 i = nI (sl i)) ∧ SolN N (lvS S) sl (fun i => ((fd i : Int) : Rat)) x ∧ ∀ j, j < nB N → SvJ τ x sl j) := by
    intro d
    induction d with
    | zero =>
      intro i fuel τ hd hf hF h87 h2 hC
      obtain ⟨fuel, rfl⟩ : ∃ f, fuel = f + 1 := ⟨fuel - 1, by omega⟩
      rw [f_X6_solves_7, show (0 : Int32).toNatClampNeg = 0 from rfl, hF.i (i := 88) (by decide), pF.i (i := 88) (by decide), hG.1]
      refine ho_t (nI_ge' (by omega) (by omega)) (ho_some ⟨(pF.mono (by decide)).trans (hF.mono (by decide)), h87, h2, sl, x, hI, fun i hi => by rw [hF.i (i := 94) (by decide)]; exact h94 i hi, hS, fun j hj => hC j hj (by have := hI.lt hj; omega)⟩)
    | succ d ih =>
      intro i fuel τ hd hf hF h87 h2 hC
      obtain ⟨fuel, rfl⟩ : ∃ f, fuel = f + 1 := ⟨fuel - 1, by omega⟩
      have hi : i < nB N := by omega
      have hsi := hI.lt hi
      have g88 : τ.1 88 = σ.1 88 := by rw [hF.i (i := 88) (by decide), pF.i (i := 88) (by decide)]
      rw [f_X6_solves_7, show (0 : Int32).toNatClampNeg = 0 from rfl, g88, hG.1, nI31 (k := i) (by omega), hF.i (i := 94) (by decide), h94 i hi]
      refine ho_f (nI_nge' (by omega) (by omega)) (ho_chk (ib_nI (by omega) (by omega)) (ho_if (fun c => ?_) (fun c => ?_)))
      · have c' := nI_inj (by omega) (by omega) c
        refine ho_bind (y_treesOf (sl := sl) hN (by rw [g88]; exact hG) hI (fun i hi => by rw [hF.i (i := 94) (by decide)]; exact h94 i hi) hi) (fun q hq => ?_)
        obtain ⟨qF, q87, q2, M, me, hM, hMe, hW⟩ := hq
        refine ho_nm (ho_nm ?_)
        have hWp : 0 < q.1.toInt := by
          have := (Mem.PD hI hN.ab hN.s0 hM).dpos (Nat.le_refl M)
          rw [← hW] at this
          exact rat_lt this
        have hWl : q.1.toInt ≤ 4084101 := by
          have := isl_le hN hI hM hMe.1
          rw [← hW] at this
          exact rat_le (y := 4084101) this
        have a96 : ∀ j, (sL (sL q.2 95 i (0 : Int64)) 96 i q.1).2 96 j = if j = i then q.1 else τ.2 96 j := fun j => by
          by_cases w : j = i
          · rw [if_pos w, w, sL_at]
          · rw [if_neg w, sL_off _ _ _ _ w, sL_ne _ _ _ (show 96 ≠ 95 by decide), qF.l (i := 96) (by decide)]
        have a95 : ∀ j, (sL (sL q.2 95 i (0 : Int64)) 96 i q.1).2 95 j = if j = i then 0 else τ.2 95 j := fun j => by
          rw [sL_ne _ _ _ (show 95 ≠ 96 by decide)]
          by_cases w : j = i
          · rw [if_pos w, w, sL_at]
          · rw [if_neg w, sL_off _ _ _ _ w, qF.l (i := 95) (by decide)]
        have b1 : (sL (sL q.2 95 i (0 : Int64)) 96 i q.1).1 = q.2.1 := by rw [sL_1, sL_1]
        have b93 : (sL (sL q.2 95 i (0 : Int64)) 96 i q.1).2 93 = σ.2 93 := by
          rw [sL_ne _ _ _ (show 93 ≠ 96 by decide), sL_ne _ _ _ (show 93 ≠ 95 by decide), qF.l (i := 93) (by decide), hF.l (i := 93) (by decide), pF.l (i := 93) (by decide)]
        have bF : Fr [87, 95, 96, 97, 98] τ (sL (sL q.2 95 i (0 : Int64)) 96 i q.1) := ((qF.mono (by decide)).sL (by decide)).sL (by decide)
        have b87 : (sL (sL q.2 95 i (0 : Int64)) 96 i q.1).2 87 = σ.2 87 := by
          rw [sL_ne _ _ _ (show 87 ≠ 96 by decide), sL_ne _ _ _ (show 87 ≠ 95 by decide), q2, h2]
        generalize (sL (sL q.2 95 i (0 : Int64)) 96 i q.1) = β at a96 a95 b1 b93 bF b87
        refine y_s51 (σ := β) (q9 := q) hN (by rw [b1, qF.i (i := 88) (by decide), g88]; exact hG) hI (fun i hi => by rw [b93]; exact h93 i hi) hfd hS hM ⟨hMe.1, hMe.2.1, by rw [b1]; exact hMe.2.2.1, by rw [b1]; exact hMe.2.2.2⟩ hW (fun υ v1 vF vC vO => ?_) M 0 1000 β (by omega) (by have := hMe.1; omega) rfl Fr.refl (fun k hk => absurd hk (Nat.not_lt_zero k)) (fun _ _ => ⟨rfl, rfl⟩)
        rw [nI_1]
        have ni : ∀ k, k < M → me k ≠ i := fun k hk => (hM.2.1 k hk).2
        have ri : υ.2 96 i = q.1 := by rw [(vO i ni).2, a96, if_pos rfl]
        refine ih (i + 1) fuel υ (by omega) (by omega) ((hF.trans bF).trans (vF.mono (by decide))) (fun k hk => ?_) ?_ (fun j hj hlt => ?_)
        · rw [v1, b1, q87 k hk, h87 k hk]
        · rw [vF.l (i := 87) (by decide), b87]
        · unfold SvJ
          by_cases w : sl j = i
          · rw [w, ri]
            by_cases w2 : j = i
            · rw [w2, ri, (vO i ni).1, a95, if_pos rfl]
              refine ⟨hWp, hWl, rfl, ?_⟩
              rw [hS.1 i hi c']
              show ((0 : Int) : Rat) = _
              grind
            · obtain ⟨k, hk, e⟩ := hM.2.2 j hj w w2
              rw [← e, (vC k hk).1]
              exact ⟨hWp, hWl, rfl, (vC k hk).2⟩
          · have nj : ∀ t, sl t = sl j → ∀ k, k < M → me k ≠ t := fun t ht k hk e => w (by rw [← ht, ← e]; exact (hM.2.1 k hk).1)
            have nji : ∀ t, sl t = sl j → t ≠ i := fun t ht e => w (by rw [← ht, e]; exact c')
            have sj := (hI.1 j hj).2
            rw [(vO j (nj j rfl)).1, (vO j (nj j rfl)).2, (vO (sl j) (nj (sl j) sj)).2, a95, a96, a96, if_neg (nji j rfl), if_neg (nji j rfl), if_neg (nji (sl j) sj)]
            exact hC j hj (by omega)
      · have c' : sl i ≠ i := fun e => c (by rw [e])
        rw [nI_1]
        refine ih (i + 1) fuel τ (by omega) (by omega) hF h87 h2 (fun j hj hlt => ?_)
        by_cases w : sl j = i
        · exact absurd (by have := (hI.1 j hj).2; rw [w] at this; exact this) c'
        · exact hC j hj (by omega)
  exact loop (nB N) 0 1000 σ1 (by omega) (by omega) Fr.refl (fun k _ => by rw [pF.i (i := 87) (by decide)]) (pF.l (by decide)) (fun j _ h => absurd h (Nat.not_lt_zero _))
end Sv
