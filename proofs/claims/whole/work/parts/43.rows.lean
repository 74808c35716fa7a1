/-! the class: the equations -/
def dsI (N : Net) (l i : Nat) : Int := (if i = eA N l then 1 else 0) - (if i = eB N l then 1 else 0)
def LaI (N : Net) (lv : Nat → Bool) (t i j : Nat) : Int := si (fun l => if lv l = true then eS N l * dsI N l i * dsI N l j else 0) t
def AmI (N : Net) (lv : Nat → Bool) (sl : Nat → Nat) (t i j : Nat) : Int := if sl i = i then (if j = i then 1 else 0) else if sl j = j then 0 else LaI N lv t i j
def pvI (pl mi : Int32) (i : Nat) : Int := (if nI i = pl then 1 else 0) - (if nI i = mi then 1 else 0)
def MxI (N : Net) (lv : Nat → Bool) (sl : Nat → Nat) (t : Nat) (pl mi : Int32) (i c : Nat) : Int := if c < nB N then AmI N lv sl t i c else if sl i = i then 0 else if c = nB N then eQ N i else pvI pl mi i
abbrev sR (N : Net) : Nat → Rat := fun l => ((eS N l : Int) : Rat)
theorem dsI_cast (N : Net) (l i : Nat) : ((dsI N l i : Int) : Rat) = ds (eA N) (eB N) l i := by
  unfold dsI ds
  rw [Rat.intCast_sub]
  congr 1 <;> split <;> rfl
theorem LaI_cast (N : Net) (lv : Nat → Bool) (t i j : Nat) : ((LaI N lv t i j : Int) : Rat) = La t (eA N) (eB N) (sR N) lv i j := by
  unfold LaI La
  rw [si_cast]
  refine sm_congr (fun l _ => ?_)
  split
  · rw [Rat.intCast_mul, Rat.intCast_mul, dsI_cast, dsI_cast]
  · rfl
theorem AmI_cast (N : Net) (lv : Nat → Bool) (sl : Nat → Nat) (t i j : Nat) : ((AmI N lv sl t i j : Int) : Rat) = Am t (eA N) (eB N) (sR N) lv sl i j := by
  unfold AmI Am
  split
  · split <;> rfl
  · split
    · rfl
    · exact LaI_cast N lv t i j
theorem dsI_bd (N : Net) (l i : Nat) : -1 ≤ dsI N l i ∧ dsI N l i ≤ 1 := by unfold dsI; (repeat' split) <;> omega
theorem LaI_bd {N : Net} (hN : NV N) (lv : Nat → Bool) {t : Nat} (ht : t ≤ nL N) (i j : Nat) : -50 ≤ LaI N lv t i j ∧ LaI N lv t i j ≤ 50 := by
  have h := si_bd (f := fun l => if lv l = true then eS N l * dsI N l i * dsI N l j else 0) (c := 5) (n := t) (fun l hl => by
    obtain ⟨-, -, -, h1, h2, -⟩ := hN.2.2.2.2 l (by omega)
    split
    · have d1 := dsI_bd N l i
      have d2 := dsI_bd N l j
      have e1 : dsI N l i = -1 ∨ dsI N l i = 0 ∨ dsI N l i = 1 := by omega
      have e2 : dsI N l j = -1 ∨ dsI N l j = 0 ∨ dsI N l j = 1 := by omega
      rcases e1 with e1 | e1 | e1 <;> rcases e2 with e2 | e2 | e2 <;> rw [e1, e2] <;> omega
    · omega)
  have := hN.2.2.1
  unfold LaI
  have : (t : Int) * 5 ≤ 50 := by omega
  omega
theorem AmI_bd {N : Net} (hN : NV N) (lv : Nat → Bool) (sl : Nat → Nat) {t : Nat} (ht : t ≤ nL N) (i j : Nat) : -50 ≤ AmI N lv sl t i j ∧ AmI N lv sl t i j ≤ 50 := by
  have := LaI_bd hN lv ht i j
  unfold AmI
  (repeat' split) <;> omega
theorem pvI_bd (pl mi : Int32) (i : Nat) : -1 ≤ pvI pl mi i ∧ pvI pl mi i ≤ 1 := by unfold pvI; (repeat' split) <;> omega
/-- rows 10 + i of the store hold F -/
def RowsI (σ : St) (n : Nat) (F : Nat → Nat → Int) : Prop := ∀ i, i < n → ∀ c, c < n + 2 → (σ.2 (10 + i) c).toInt = F i c
theorem rid (i : Nat) : 9 + 1 * (i + 1) = 10 + i := by omega
theorem x_sr29 {σ0 : St} {n i : Nat} {p q : Int32} {fl : Bool} {k : St → Option St} {P : St → Prop} (hn : n ≤ 6) (hi : i < n) (hk : ∀ τ, Fr [10 + i] σ0 τ → (∀ e, e < n → (τ.2 (10 + i) e).toInt = if fl = true ∧ e = i then 1 else 0) → Ho (k τ) P) :
    ∀ (d c fuel : Nat) (τ : St), c + d = n → d < fuel → Fr [10 + i] σ0 τ → (∀ e, e < c → (τ.2 (10 + i) e).toInt = if fl = true ∧ e = i then 1 else 0) → Ho (f_X4_startRow_29 (nI i) p q (nI n) (bI fl, σ0) k fuel (nI c) τ) P := by
  intro d
  induction d with
  | zero =>
    intro c fuel τ hcd hf hF h
    obtain ⟨fuel, rfl⟩ : ∃ f, fuel = f + 1 := ⟨fuel - 1, by omega⟩
    rw [f_X4_startRow_29]
    exact ho_t (nI_ge' (by omega) (by omega)) (hk τ hF (fun e he => h e (by omega)))
  | succ d ih =>
    intro c fuel τ hcd hf hF h
    obtain ⟨fuel, rfl⟩ : ∃ f, fuel = f + 1 := ⟨fuel - 1, by omega⟩
    have st : ∀ v : Int64, v.toInt = (if fl = true ∧ c = i then 1 else 0) → Ho (f_X4_startRow_29 (nI i) p q (nI n) (bI fl, σ0) k fuel (nI c + 1) (sL τ (10 + i) c v)) P := by
      intro v hv
      rw [nI_1]
      refine ih (c + 1) fuel _ (by omega) (by omega) (hF.sL (by simp)) (fun e he => ?_)
      by_cases q : e = c
      · rw [q, sL_at]; exact hv
      · rw [sL_off _ _ _ _ q]; exact h e (by omega)
    rw [f_X4_startRow_29, nI31 (by omega), nI31 (by omega), rid]
    refine ho_f (nI_nge' (by omega) (by omega)) (ho_chk (ib_nI (by omega) (by omega)) ?_)
    cases fl
    · refine ho_t rfl (ho_chk (ib_nI (by omega) (by omega)) (ho_nm (st 0 ?_)))
      rw [if_neg (by simp)]; rfl
    · refine ho_f (show ¬ (1 : Int32) = 0 by decide) (ho_if (fun e => ?_) (fun e => ?_))
      · refine ho_chk (ib_nI (by omega) (by omega)) (ho_nm (st 1 ?_))
        rw [if_pos ⟨rfl, nI_inj (by omega) (by omega) e⟩]; rfl
      · refine ho_chk (ib_nI (by omega) (by omega)) (ho_nm (st 0 ?_))
        rw [if_neg (fun q => e (by rw [q.2]))]; rfl
theorem x_startRow {σ : St} {N : Net} {lv : Nat → Bool} {sl : Nat → Nat} (hN : NV N) (hG : CG σ 24 N) (h8 : ∀ i, i < nB N → σ.1 8 i = nI (sl i)) (hsl : ∀ i, i < nB N → sl i < nB N) (pl mi : Int32) {i : Nat} (hi : i < nB N) :
    Ho (f_X4_startRow (nI i) pl mi σ) (fun σ' => Fr [10 + i] σ σ' ∧ ∀ c, c < nB N + 2 → (σ'.2 (10 + i) c).toInt = MxI N lv sl 0 pl mi i c) := by
  obtain ⟨hn2, hn6, hm, hq, hl⟩ := hN
  have hi1 : i < 6 := by omega
  have hsi := hsl i hi
  have hm0 : ∀ c, c < nB N → MxI N lv sl 0 pl mi i c = if decide (sl i = i) = true ∧ c = i then 1 else 0 := by
    intro c hc
    unfold MxI AmI
    rw [if_pos hc]
    by_cases h : sl i = i
    · rw [if_pos h]
      by_cases e : c = i
      · rw [if_pos e, if_pos ⟨decide_eq_true h, e⟩]
      · rw [if_neg e, if_neg (fun q => e q.2)]
    · rw [if_neg h, if_neg (show ¬ (decide (sl i = i) = true ∧ c = i) from fun q => h (of_decide_eq_true q.1))]
      split <;> rfl
  unfold f_X4_startRow
  rw [hG.1]
  refine ho_nm (ho_chk (ib_nI (by omega) (by omega)) (ho_jn ?_))
  dsimp only
  rw [nI31 (by omega), h8 i hi]
  by_cases h : sl i = i
  · refine ho_t (by rw [h]) ?_
    refine x_sr29 (fl := true) hn6 hi (fun τ hF hr => ?_) (nB N) 0 1000 σ (by omega) (by omega) Fr.refl (fun e he => absurd he (Nat.not_lt_zero e))
    refine ho_chk (ib_nI (by omega) (by omega)) (ho_jn ?_)
    dsimp only
    refine ho_f (by decide) (ho_chk (ib_nI (by omega) (by omega)) (ho_nm (ho_f (by decide) ?_)))
    rw [nI31 (by omega), rid, show nI (nB N) + (1 : Int32) = nI (nB N + 1) from nI_1 _, nI31 (by omega)]
    refine ho_chk (ib_nI (by omega) (by omega)) (ho_nm (ho_some ⟨(hF.sL (by simp)).sL (by simp), fun c hc => ?_⟩))
    by_cases c1 : c = nB N + 1
    · rw [c1, sL_at]
      unfold MxI
      rw [if_neg (by omega), if_pos h]; rfl
    · rw [sL_off _ _ _ _ c1]
      by_cases c2 : c = nB N
      · rw [c2, sL_at]
        unfold MxI
        rw [if_neg (by omega), if_pos h]; rfl
      · rw [sL_off _ _ _ _ c2, hr c (by omega), hm0 c (by omega), decide_eq_true h]
  · refine ho_f (nI_ne h (by omega) (by omega)) ?_
    refine x_sr29 (fl := false) hn6 hi (fun τ hF hr => ?_) (nB N) 0 1000 σ (by omega) (by omega) Fr.refl (fun e he => absurd he (Nat.not_lt_zero e))
    refine ho_chk (ib_nI (by omega) (by omega)) (ho_jn ?_)
    dsimp only
    refine ho_t rfl (ho_chk (ib_nI (by omega) (by omega)) (ho_nm (ho_t rfl (ho_jn ?_))))
    dsimp only
    rw [nI31 (by omega), rid, show nI (nB N) + (1 : Int32) = nI (nB N + 1) from nI_1 _, nI31 (by omega), hF.i (i := 25) (by simp; omega), hG.2.2.1 i hi1]
    have hqi := hq i hi1
    have fin : ∀ v : Int64, v.toInt = pvI pl mi i → (fun σ' : St => Fr [10 + i] σ σ' ∧ ∀ c, c < nB N + 2 → (σ'.2 (10 + i) c).toInt = MxI N lv sl 0 pl mi i c) (sL (sL τ (10 + i) (nB N) (iI (eQ N i)).toInt64) (10 + i) (nB N + 1) v) := by
      intro v hv
      refine ⟨(hF.sL (by simp)).sL (by simp), fun c hc => ?_⟩
      by_cases c1 : c = nB N + 1
      · rw [c1, sL_at, hv]
        unfold MxI
        rw [if_neg (by omega), if_neg h, if_neg (by omega)]
      · rw [sL_off _ _ _ _ c1]
        by_cases c2 : c = nB N
        · rw [c2, sL_at, i2l_t, iI_t (by omega) (by omega)]
          unfold MxI
          rw [if_neg (by omega), if_neg h, if_pos rfl]
        · rw [sL_off _ _ _ _ c2, hr c (by omega), hm0 c (by omega), decide_eq_false h]
    refine ho_if (fun e1 => ho_if (fun e2 => ?_) (fun e2 => ?_)) (fun e1 => ho_if (fun e2 => ?_) (fun e2 => ?_))
    · refine ho_chk (ib_nI (by omega) (by omega)) (ho_nm (ho_some (fin _ ?_)))
      unfold pvI; rw [if_pos e1, if_pos e2]; decide
    · refine ho_chk (ib_nI (by omega) (by omega)) (ho_nm (ho_some (fin _ ?_)))
      unfold pvI; rw [if_pos e1, if_neg e2]; decide
    · refine ho_chk (ib_nI (by omega) (by omega)) (ho_nm (ho_some (fin _ ?_)))
      unfold pvI; rw [if_neg e1, if_pos e2]; decide
    · refine ho_chk (ib_nI (by omega) (by omega)) (ho_nm (ho_some (fin _ ?_)))
      unfold pvI; rw [if_neg e1, if_neg e2]; decide
theorem x_addTerms {σ : St} {n p q : Nat} {s : Int} {sl : Nat → Nat} {F : Nat → Int} (hn : n ≤ 6) (hp : p < n) (hq : q < n) (hpq : p ≠ q) (hs : 1 ≤ s ∧ s ≤ 5) (hsl : ∀ i, i < n → sl i < n) (h8 : ∀ i, i < n → σ.1 8 i = nI (sl i)) (hF : ∀ c, c < n + 2 → (σ.2 (10 + p) c).toInt = F c) (hb : ∀ c, c < n + 2 → -1000 ≤ F c ∧ F c ≤ 1000) :
    Ho (f_X4_addTerms (nI p) (nI q) (iI s) σ) (fun σ' => Fr [10 + p] σ σ' ∧ ∀ c, c < n + 2 → (σ'.2 (10 + p) c).toInt = F c + (if sl p = p then 0 else if c = p then s else if c = q ∧ sl q ≠ q then -s else 0)) := by
  have b1 := hsl p hp
  have b2 := hsl q hq
  unfold f_X4_addTerms
  rw [nI31 (by omega), nI31 (by omega), h8 p hp, rid]
  refine ho_chk (ib_nI (by omega) (by omega)) (ho_if (fun e => ?_) (fun e => ?_))
  · have e' := nI_inj (by omega) (by omega) e
    refine ho_some ⟨Fr.refl, fun c hc => ?_⟩
    rw [if_pos e', hF c hc]; omega
  · have e' : ¬ sl p = p := fun w => e (by rw [w])
    refine ho_chk (ib_nI (by omega) (by omega)) (ho_nm (ho_chk (ib_nI (by omega) (by omega)) ?_))
    rw [sL_1, h8 q hq]
    have hs64 : (iI s).toInt64.toInt = s := by rw [i2l_t, iI_t (by omega) (by omega)]
    have t1 : ((σ.2 (10 + p) p) + (iI s).toInt64).toInt = F p + s := by
      have := hb p (by omega)
      have h1 := hF p (by omega)
      rw [fb_addL (by rw [h1, hs64]; omega) (by rw [h1, hs64]; omega), h1, hs64]
    refine ho_if (fun g => ?_) (fun g => ?_)
    · have g' := nI_inj (by omega) (by omega) g
      refine ho_some ⟨Fr.refl.sL (by simp), fun c hc => ?_⟩
      rw [if_neg e']
      by_cases c1 : c = p
      · rw [c1, sL_at, t1, if_pos rfl]
      · rw [sL_off _ _ _ _ c1, hF c hc, if_neg c1, if_neg (fun w => w.2 g')]; omega
    · have g' : ¬ sl q = q := fun w => g (by rw [w])
      refine ho_chk (ib_nI (by omega) (by omega)) (ho_nm (ho_some ⟨(Fr.refl.sL (by simp)).sL (by simp), fun c hc => ?_⟩))
      rw [if_neg e']
      by_cases c2 : c = q
      · have := hb q (by omega)
        have h1 := hF q (by omega)
        rw [c2, sL_at, sL_off _ _ _ _ (fun w => hpq w.symm), if_neg (fun w => hpq w.symm), if_pos ⟨rfl, g'⟩, fb_subL (by rw [h1, hs64]; omega) (by rw [h1, hs64]; omega), h1, hs64]; omega
      · rw [sL_off _ _ _ _ c2]
        by_cases c1 : c = p
        · rw [c1, sL_at, t1, if_pos rfl]
        · rw [sL_off _ _ _ _ c1, hF c hc, if_neg c1, if_neg (fun w => c2 w.1)]; omega
