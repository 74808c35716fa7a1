/-! the class: elimination -/
theorem pr_mul (f g : Nat → Rat) : ∀ n, pr (fun k => f k * g k) n = pr f n * pr g n
  | 0 => by show (1 : Rat) = 1 * 1; grind
  | n + 1 => by rw [pr, pr, pr, pr_mul f g n]; grind
theorem pr_sp {u : Rat} (hu : 1 ≤ u) (e : Nat) : ∀ t, 0 ≤ pr (fun d => if d = e then u else 1) t ∧ pr (fun d => if d = e then u else 1) t ≤ u
  | 0 => by show (0 : Rat) ≤ 1 ∧ (1 : Rat) ≤ u; grind
  | t + 1 => by
    have e1 : ∀ t, t ≤ e → pr (fun d => if d = e then u else 1) t = 1 := by
      intro t
      induction t with
      | zero => intro _; rfl
      | succ t ih => intro h; rw [pr, ih (by omega), if_neg (by omega)]; grind
    rw [pr]
    by_cases h : t = e
    · rw [if_pos h, h, e1 e (Nat.le_refl e)]; grind
    · rw [if_neg h]
      have := pr_sp hu e t
      grind
def f1c (d : Nat) : Rat := if d = 0 then 1 else 100
theorem f1c_pr : ∀ t, t ≤ 6 → 0 ≤ pr f1c t ∧ pr f1c t ≤ 10000000000 ∧ (t ≤ 5 → pr f1c t ≤ 100000000) := by
  have e : ∀ k, f1c (k + 1) = 100 := fun k => if_neg (by omega)
  have h1 : pr f1c 1 = 1 := by rw [pr, pr]; show (1 : Rat) * 1 = 1; grind
  have h2 : pr f1c 2 = 100 := by rw [pr, h1, e]; grind
  have h3 : pr f1c 3 = 10000 := by rw [pr, h2, e]; grind
  have h4 : pr f1c 4 = 1000000 := by rw [pr, h3, e]; grind
  have h5 : pr f1c 5 = 100000000 := by rw [pr, h4, e]; grind
  have h6 : pr f1c 6 = 10000000000 := by rw [pr, h5, e]; grind
  intro t ht
  match t, ht with
  | 0, _ => show (0 : Rat) ≤ 1 ∧ (1 : Rat) ≤ 10000000000 ∧ (_ → (1 : Rat) ≤ 100000000); grind
  | 1, _ => rw [h1]; grind
  | 2, _ => rw [h2]; grind
  | 3, _ => rw [h3]; grind
  | 4, _ => rw [h4]; grind
  | 5, _ => rw [h5]; grind
  | 6, _ => rw [h6]; exact ⟨by grind, by grind, fun h => absurd h (by omega)⟩
theorem prb {g : Nat → Rat} {t e : Nat} (ht : t ≤ 6) (hg : ∀ d, d < t → 0 ≤ g d ∧ g d ≤ f1c d * (if d = e then 495 / 100 else 1)) : pr g t ≤ 49500000000 := by
  refine Rat.le_trans (pr_le hg) ?_
  rw [pr_mul]
  obtain ⟨h1, h2, -⟩ := f1c_pr t ht
  obtain ⟨h3, h4⟩ := pr_sp (u := 495 / 100) (by grind) e t
  have := mul_le2 h2 h4 h3 (by grind)
  grind
theorem prb0 {g : Nat → Rat} {t : Nat} (ht : t ≤ 5) (hg : ∀ d, d < t → 0 ≤ g d ∧ g d ≤ f1c d) : pr g t ≤ 100000000 := Rat.le_trans (pr_le hg) ((f1c_pr t (by omega)).2.2 ht)
theorem sm_part {f : Nat → Rat} {t n : Nat} (h : t ≤ n) (hf : ∀ k, 0 ≤ f k) : sm f t ≤ sm f n := by
  induction n with
  | zero => rw [show t = 0 by omega]; exact Rat.le_refl
  | succ n ih =>
    by_cases e : t = n + 1
    · rw [e]; exact Rat.le_refl
    · have := ih (by omega)
      have := hf n
      rw [sm]; grind
section Gs
variable {N : Net} {lv : Nat → Bool} {sl : Nat → Nat} {pl mi : Int32}
/-- what the cell (i, c) holds once k pivots are done -/
def Vg (N : Net) (lv : Nat → Bool) (sl : Nat → Nat) (pl mi : Int32) (k i c : Nat) : Rat := if i < k then ej (MxQ N lv sl pl mi) k i c else bm (MxQ N lv sl pl mi) k i c
theorem Vg_int (k i c : Nat) : isI (Vg N lv sl pl mi k i c) := by
  have h : ∀ r c, isI (MxQ N lv sl pl mi r c) := fun r c => ⟨_, rfl⟩
  unfold Vg
  split
  · exact isI_dt (fun r d _ _ => by unfold cr; split <;> exact h _ _)
  · exact isI_dt (fun r d _ _ => h _ _)
theorem Vg_new (k c : Nat) : Vg N lv sl pl mi (k + 1) k c = Vg N lv sl pl mi k k c := by
  unfold Vg
  rw [if_pos (Nat.lt_succ_self k), if_neg (Nat.lt_irrefl k), ej_new]
theorem Vg_piv (k : Nat) : Vg N lv sl pl mi k k k = dt (k + 1) (MxQ N lv sl pl mi) := by
  unfold Vg
  rw [if_neg (Nat.lt_irrefl k), bm_lead]
theorem Vg_step (hN : NV N) (hI : IslN N lv sl) {k i c : Nat} (hk : k < nB N) (hik : i ≠ k) (hc : k < c) : Vg N lv sl pl mi (k + 1) i c * dt k (MxQ N lv sl pl mi) = Vg N lv sl pl mi k k k * Vg N lv sl pl mi k i c - Vg N lv sl pl mi k i k * Vg N lv sl pl mi k k c := by
  have hp : ∀ t, 1 ≤ t → t ≤ k + 1 → dt t (MxQ N lv sl pl mi) ≠ 0 := fun t _ ht => by have := MxQ_pos hN hI pl mi (t := t) (by omega); grind
  rw [Vg_piv]
  unfold Vg
  rw [if_neg (Nat.lt_irrefl k)]
  by_cases h : i < k
  · rw [if_pos h, if_pos h, if_pos (by omega)]
    exact ej_step h hp
  · rw [if_neg h, if_neg h, if_neg (by omega)]
    exact bm_step (by omega) hc (fun t h1 h2 => hp t h1 (by omega))
theorem cB_nn (n c : Nat) : 0 ≤ cB n c := by unfold cB; (repeat' split) <;> grind
theorem Vg_bd (hN : NV N) (hI : IslN N lv sl) {k i c : Nat} (hk : k < nB N) (hi : i < nB N) (hik : i ≠ k) (hc : k < c) : ab (Vg N lv sl pl mi (k + 1) i c) ≤ 49500000000 := by
  have hn := hN.2.1
  have nn : ∀ d, ∀ r, 0 ≤ ab (MxQ N lv sl pl mi r d) := fun d r => ab_nn _
  have cl := fun d => cols hN hI pl mi d
  have cb1 : ∀ d, d < nB N → cB (nB N) d ≤ f1c d := fun d hd => by
    unfold cB f1c
    by_cases e : d = 0
    · rw [if_pos e, if_pos e]; exact Rat.le_refl
    · rw [if_neg e, if_neg e, if_pos hd]; exact Rat.le_refl
  have cb2 : ∀ d, cB (nB N) d ≤ 495 := fun d => by unfold cB; (repeat' split) <;> grind
  have f495 : ∀ d, d ≠ 0 → (495 : Rat) ≤ f1c d * (495 / 100) := fun d hd => by unfold f1c; rw [if_neg hd]; grind
  unfold Vg
  by_cases h : i < k + 1
  · rw [if_pos h]
    have hik2 : i < k := by omega
    by_cases hs : sl i = i
    · have hp : ∀ t, 1 ≤ t → t ≤ k + 1 → dt t (MxQ N lv sl pl mi) ≠ 0 := fun t _ ht => by have := MxQ_pos hN hI pl mi (t := t) (by omega); grind
      obtain ⟨z, hz⟩ := dt_solve (n := k + 1) (M := MxQ N lv sl pl mi) (fun r => MxQ N lv sl pl mi r c) hp
      have e1 : ej (MxQ N lv sl pl mi) (k + 1) i c = z i * dt (k + 1) (MxQ N lv sl pl mi) := dt_cramer h hz
      have q := hz i h
      have e2 : MxQ N lv sl pl mi i c = 0 := by
        unfold MxQ MxI AmI
        by_cases hc3 : c < nB N
        · rw [if_pos hc3, if_pos hs, if_neg (show ¬ c = i by omega)]; rfl
        · rw [if_neg hc3, if_pos hs]; rfl
      rw [e2, sm_one h (fun j hj hne => by rw [MxQ_A lv sl pl mi (by omega)]; show Am _ _ _ _ _ _ _ _ * _ = 0; unfold Am; rw [if_pos hs, if_neg hne]; grind), MxQ_A lv sl pl mi (by omega)] at q
      have e3 : AmQ N lv sl i i = 1 := by show Am _ _ _ _ _ _ _ _ = 1; unfold Am; rw [if_pos hs, if_pos rfl]
      rw [e3] at q
      rw [e1, show z i = 0 by grind, show (0 : Rat) * dt (k + 1) (MxQ N lv sl pl mi) = 0 by grind, ab_0]
      grind
    · have hi0 : i ≠ 0 := fun e => hs (by have := (hI.1 0 (by omega)).1; rw [e]; omega)
      refine Rat.le_trans (dt_cols (k + 1) _) (prb (e := i) (by omega) (fun d hd => ⟨sm_nn (fun r _ => ab_nn _), ?_⟩))
      unfold cr
      by_cases e : d = i
      · rw [if_pos e]
        have q1 : sm (fun r => ab (if d = i then MxQ N lv sl pl mi r c else MxQ N lv sl pl mi r d)) (k + 1) = sm (fun r => ab (MxQ N lv sl pl mi r c)) (k + 1) := sm_congr (fun r _ => by rw [if_pos e])
        rw [q1]
        have q2 := sm_part (f := fun r => ab (MxQ N lv sl pl mi r c)) (t := k + 1) (n := nB N) (by omega) (nn c)
        have := cl c
        have := cb2 c
        have := f495 d (by omega)
        grind
      · rw [if_neg e]
        have q1 : sm (fun r => ab (if d = i then MxQ N lv sl pl mi r c else MxQ N lv sl pl mi r d)) (k + 1) = sm (fun r => ab (MxQ N lv sl pl mi r d)) (k + 1) := sm_congr (fun r _ => by rw [if_neg e])
        rw [q1]
        have q2 := sm_part (f := fun r => ab (MxQ N lv sl pl mi r d)) (t := k + 1) (n := nB N) (by omega) (nn d)
        have := cl d
        have := cb1 d (by omega)
        grind
  · rw [if_neg h]
    refine Rat.le_trans (dt_cols (k + 1 + 1) _) (prb (e := k + 1) (by omega) (fun d hd => ⟨sm_nn (fun r _ => ab_nn _), ?_⟩))
    have key : ∀ d', sm (fun r => ab (MxQ N lv sl pl mi (if r < k + 1 then r else i) d')) (k + 1 + 1) ≤ cB (nB N) d' := by
      intro d'
      rw [sm, if_neg (Nat.lt_irrefl _), sm_congr (g := fun r => ab (MxQ N lv sl pl mi r d')) (fun r hr => by rw [if_pos hr])]
      have q1 := sm_part (f := fun r => ab (MxQ N lv sl pl mi r d')) (t := k + 1) (n := i) (by omega) (nn d')
      have q2 := sm_part (f := fun r => ab (MxQ N lv sl pl mi r d')) (t := i + 1) (n := nB N) (by omega) (nn d')
      rw [sm] at q2
      have := cl d'
      grind
    by_cases e : d < k + 1
    · rw [if_neg (show ¬ d = k + 1 by omega)]
      have q1 : sm (fun r => ab (MxQ N lv sl pl mi (if r < k + 1 then r else i) (if d < k + 1 then d else c))) (k + 1 + 1) = sm (fun r => ab (MxQ N lv sl pl mi (if r < k + 1 then r else i) d)) (k + 1 + 1) := sm_congr (fun r _ => by rw [if_pos e])
      rw [q1]
      have := key d
      have := cb1 d (by omega)
      grind
    · rw [if_pos (show d = k + 1 by omega)]
      have q1 : sm (fun r => ab (MxQ N lv sl pl mi (if r < k + 1 then r else i) (if d < k + 1 then d else c))) (k + 1 + 1) = sm (fun r => ab (MxQ N lv sl pl mi (if r < k + 1 then r else i) c)) (k + 1 + 1) := sm_congr (fun r _ => by rw [if_neg e])
      rw [q1]
      have := key c
      have := cb2 c
      have := f495 d (by omega)
      grind
theorem dt_bd (hN : NV N) (hI : IslN N lv sl) {k : Nat} (hk : k < nB N) : dt k (MxQ N lv sl pl mi) ≤ 100000000 := by
  have hn := hN.2.1
  have h1 := dt_cols k (MxQ N lv sl pl mi)
  have h2 := prb0 (g := fun c => sm (fun r => ab (MxQ N lv sl pl mi r c)) k) (t := k) (by omega) (fun d hd => ⟨sm_nn (fun r _ => ab_nn _), by
    have q2 := sm_part (f := fun r => ab (MxQ N lv sl pl mi r d)) (t := k) (n := nB N) (by omega) (fun r => ab_nn _)
    have := cols hN hI pl mi d
    have : cB (nB N) d ≤ f1c d := by
      unfold cB f1c
      by_cases e : d = 0
      · rw [if_pos e, if_pos e]; exact Rat.le_refl
      · rw [if_neg e, if_neg e, if_pos (by omega)]; exact Rat.le_refl
    grind⟩)
  have h3 := (ab_le (x := dt k (MxQ N lv sl pl mi))).2
  grind
/-- the state between two pivots -/
def Eg (N : Net) (lv : Nat → Bool) (sl : Nat → Nat) (pl mi : Int32) (k : Nat) (τ : St) : Prop := (((τ.2 6 7).toInt : Int) : Rat) = dt k (MxQ N lv sl pl mi) ∧ ∀ i, i < nB N → ∀ c, k ≤ c → c < nB N + 2 → (((τ.2 (10 + i) c).toInt : Int) : Rat) = Vg N lv sl pl mi k i c
theorem x_e63 {n k i : Nat} {P T : Int64} {z : Nat → Int} {τ0 : St} {kk : St → Option St} {Q : St → Prop} (hn : n ≤ 6) (hi : i < n) (hk : k < n) (hik : i ≠ k) (hw : 0 < (τ0.2 6 7).toInt)
    (hz : ∀ c, k < c → c < n + 2 → P.toInt * (τ0.2 (10 + i) c).toInt - T.toInt * (τ0.2 (10 + k) c).toInt = (τ0.2 6 7).toInt * z c ∧ -9223372036854775808 ≤ (τ0.2 6 7).toInt * z c ∧ (τ0.2 6 7).toInt * z c < 9223372036854775808)
    (hkk : ∀ τ, Fr [10 + i] τ0 τ → (∀ c, k < c → c < n + 2 → (τ.2 (10 + i) c).toInt = z c) → (∀ c, c ≤ k → τ.2 (10 + i) c = τ0.2 (10 + i) c) → Ho (kk τ) Q) :
    ∀ (d c fuel : Nat) (τ : St), c + d = n + 2 → d < fuel → k < c → Fr [10 + i] τ0 τ → (∀ e, k < e → e < c → (τ.2 (10 + i) e).toInt = z e) → (∀ e, e ≤ k ∨ c ≤ e → τ.2 (10 + i) e = τ0.2 (10 + i) e) → Ho (f_X4_eliminate_63 (nI n) (nI k) P (nI i) T kk fuel (nI c) τ) Q := by
  have hne : ¬ nI i = nI k := nI_ne hik (by omega) (by omega)
  intro d
  induction d with
  | zero =>
    intro c fuel τ hcd hf hkc hF h1 h2
    obtain ⟨fuel, rfl⟩ : ∃ f, fuel = f + 1 := ⟨fuel - 1, by omega⟩
    rw [f_X4_eliminate_63, show nI n + (2 : Int32) = nI (n + 2) from nI_add n 2]
    refine ho_f hne (ho_t (nI_ge' (by omega) (by omega)) (hkk τ hF (fun e he he2 => h1 e he (by omega)) (fun e he => h2 e (Or.inl he))))
  | succ d ih =>
    intro c fuel τ hcd hf hkc hF h1 h2
    obtain ⟨fuel, rfl⟩ : ∃ f, fuel = f + 1 := ⟨fuel - 1, by omega⟩
    obtain ⟨z1, z2, z3⟩ := hz c hkc (by omega)
    rw [f_X4_eliminate_63, show nI n + (2 : Int32) = nI (n + 2) from nI_add n 2]
    rw [nI31 (by omega), nI31 (by omega), nI31 (by omega), rid, rid, hF.l (i := 6) (by simp; omega), hF.row (j := k) (fun e => hik e.symm), h2 c (Or.inr (Nat.le_refl c))]
    refine ho_f hne (ho_f (nI_nge' (by omega) (by omega)) (ho_chk (ib_nI (by omega) (by omega)) (ho_chk (ib_nI (by omega) (by omega)) (ho_chk (ib_nI (by omega) (by omega)) (ho_chk ?_ (ho_nm ?_))))))
    · refine decide_eq_true (fun e => ?_)
      rw [e] at hw
      exact absurd hw (by decide)
    · rw [nI_1]
      refine ih (c + 1) fuel _ (by omega) (by omega) (by omega) (hF.sL (by simp)) (fun e he he2 => ?_) (fun e he => ?_)
      · by_cases q : e = c
        · rw [q, sL_at]
          exact l_exact z1 hw z2 z3
        · rw [sL_off _ _ _ _ q]; exact h1 e he (by omega)
      · rw [sL_off _ _ _ _ (by omega)]; exact h2 e (by omega)
theorem x_e41 (hN : NV N) (hI : IslN N lv sl) {k : Nat} (hk : k < nB N) {τ0 : St} (hE : Eg N lv sl pl mi k τ0) {kk : St → Option St} {Q : St → Prop}
    (hkk : ∀ τ, Fr r6 τ0 τ → (∀ i, i < nB N → ∀ c, k < c → c < nB N + 2 → (((τ.2 (10 + i) c).toInt : Int) : Rat) = Vg N lv sl pl mi (k + 1) i c) → Ho (kk τ) Q) :
    ∀ (d i fuel : Nat) (τ : St), i + d = nB N → d < fuel → Fr r6 τ0 τ → (∀ j, j < i → ∀ c, k < c → c < nB N + 2 → (((τ.2 (10 + j) c).toInt : Int) : Rat) = Vg N lv sl pl mi (k + 1) j c) → (∀ j, i ≤ j → τ.2 (10 + j) = τ0.2 (10 + j)) → τ.2 (10 + k) = τ0.2 (10 + k) → Ho (f_X4_eliminate_41 (nI (nB N)) (nI k) (τ0.2 (10 + k) k) kk fuel (nI i) τ) Q := by
  have hn := hN.2.1
  obtain ⟨hw, hV⟩ := hE
  intro d
  induction d with
  | zero =>
    intro i fuel τ hid hf hF h1 h2 h3
    obtain ⟨fuel, rfl⟩ : ∃ f, fuel = f + 1 := ⟨fuel - 1, by omega⟩
    rw [f_X4_eliminate_41]
    exact ho_t (nI_ge' (by omega) (by omega)) (hkk τ hF (fun j hj => h1 j (by omega)))
  | succ d ih =>
    intro i fuel τ hid hf hF h1 h2 h3
    obtain ⟨fuel, rfl⟩ : ∃ f, fuel = f + 1 := ⟨fuel - 1, by omega⟩
    rw [f_X4_eliminate_41]
    refine ho_f (nI_nge' (by omega) (by omega)) (ho_chk (ib_nI (by omega) (by omega)) (ho_chk (ib_nI (by omega) (by omega)) (ho_nm (ho_nm ?_))))
    rw [nI31 (by omega), nI31 (by omega), rid, show nI k + (1 : Int32) = nI (k + 1) from nI_1 k, h2 i (Nat.le_refl i)]
    by_cases e : i = k
    · subst e
      rw [f_X4_eliminate_63]
      refine ho_t rfl ?_
      rw [nI_1]
      refine ih (i + 1) fuel τ (by omega) (by omega) hF (fun j hj c hc hc2 => ?_) (fun j hj => h2 j (by omega)) h3
      by_cases q : j = i
      · rw [q, Vg_new, h2 i (Nat.le_refl i)]
        exact hV i (by omega) c (by omega) hc2
      · exact h1 j (by omega) c hc hc2
    · have hpos := MxQ_pos hN hI pl mi (t := k) (by omega)
      have hw0 : 0 < (τ0.2 6 7).toInt := by
        rw [← hw] at hpos
        exact_mod_cast hpos
      have h67 : τ.2 6 = τ0.2 6 := hF.l (by decide)
      have hzz : ∀ c, ∃ z : Int, Vg N lv sl pl mi (k + 1) i c = (z : Rat) := fun c => Vg_int (k + 1) i c
      have hz2 : ∃ z : Nat → Int, ∀ c, Vg N lv sl pl mi (k + 1) i c = ((z c : Int) : Rat) := ⟨fun c => Classical.choose (hzz c), fun c => Classical.choose_spec (hzz c)⟩
      obtain ⟨z, hz⟩ := hz2
      refine x_e63 (z := z) (τ0 := τ) hn (by omega) hk e (by rw [h67]; exact hw0) (fun c hc hc2 => ?_) (fun τ' hF' hr hr2 => ?_) (nB N + 2 - (k + 1)) (k + 1) 1000 τ (by omega) (by omega) (by omega) Fr.refl (fun e he he2 => absurd he2 (by omega)) (fun e _ => rfl)
      · rw [h67, h2 i (Nat.le_refl i), h3]
        have st := Vg_step (pl := pl) (mi := mi) hN hI hk e hc
        rw [hz c, ← hw, ← hV k hk k (Nat.le_refl k) (by omega), ← hV i (by omega) c (by omega) hc2, ← hV i (by omega) k (Nat.le_refl k) (by omega), ← hV k hk c (by omega) hc2] at st
        have bd := Vg_bd (pl := pl) (mi := mi) hN hI hk (show i < nB N by omega) e hc
        rw [hz c, ab_int] at bd
        have bd2 : ((z c).natAbs : Int) ≤ 49500000000 := by
          have : (((z c).natAbs : Int) : Rat) ≤ ((49500000000 : Int) : Rat) := bd
          exact rat_le this
        have wd := dt_bd (pl := pl) (mi := mi) hN hI hk
        rw [← hw] at wd
        have wd2 : (τ0.2 6 7).toInt ≤ 100000000 := by
          have : (((τ0.2 6 7).toInt : Int) : Rat) ≤ ((100000000 : Int) : Rat) := wd
          exact rat_le this
        have e3 : (τ0.2 (10 + k) k).toInt * (τ0.2 (10 + i) c).toInt - (τ0.2 (10 + i) k).toInt * (τ0.2 (10 + k) c).toInt = (τ0.2 6 7).toInt * z c := by
          have : (((τ0.2 (10 + k) k).toInt * (τ0.2 (10 + i) c).toInt - (τ0.2 (10 + i) k).toInt * (τ0.2 (10 + k) c).toInt : Int) : Rat) = (((τ0.2 6 7).toInt * z c : Int) : Rat) := by
            rw [Rat.intCast_sub, Rat.intCast_mul, Rat.intCast_mul, Rat.intCast_mul, ← st]
            grind
          exact_mod_cast this
        refine ⟨e3, ?_⟩
        have p1 : ((τ0.2 6 7).toInt * z c).natAbs ≤ 100000000 * 49500000000 := by
          rw [Int.natAbs_mul]
          exact Nat.mul_le_mul (by omega) (by omega)
        omega
      · rw [nI_1]
        refine ih (i + 1) fuel τ' (by omega) (by omega) (hF.trans (hF'.r6 (by omega))) (fun j hj c hc hc2 => ?_) (fun j hj => ?_) ?_
        · by_cases q : j = i
          · rw [q, hr c hc hc2, hz c]
          · rw [hF'.row q]; exact h1 j (by omega) c hc hc2
        · rw [hF'.row (by omega)]; exact h2 j (by omega)
        · rw [hF'.row (fun q => e q.symm)]; exact h3
theorem x_e15 (hN : NV N) (hI : IslN N lv sl) {σ : St} {kk : St → Option St} {Q : St → Prop} (hkk : ∀ τ, Fr (6 :: r6) σ τ → (∀ k, k ≠ 7 → τ.2 6 k = σ.2 6 k) → τ.1 6 = σ.1 6 → Eg N lv sl pl mi (nB N) τ → Ho (kk τ) Q) :
    ∀ (d k fuel : Nat) (τ : St), k + d = nB N → d < fuel → Fr (6 :: r6) σ τ → (∀ k, k ≠ 7 → τ.2 6 k = σ.2 6 k) → τ.1 6 = σ.1 6 → Eg N lv sl pl mi k τ → Ho (f_X4_eliminate_15 (nI (nB N)) kk fuel (nI k) τ) Q := by
  have hn := hN.2.1
  intro d
  induction d with
  | zero =>
    intro k fuel τ hid hf hF hF6 hF61 hE
    obtain ⟨fuel, rfl⟩ : ∃ f, fuel = f + 1 := ⟨fuel - 1, by omega⟩
    have e : k = nB N := by omega
    subst e
    rw [f_X4_eliminate_15]
    exact ho_t (nI_ge' (Nat.le_refl _) (by omega)) (hkk τ hF hF6 hF61 hE)
  | succ d ih =>
    intro k fuel τ hid hf hF hF6 hF61 hE
    obtain ⟨fuel, rfl⟩ : ∃ f, fuel = f + 1 := ⟨fuel - 1, by omega⟩
    have hk : k < nB N := by omega
    have hpos := MxQ_pos hN hI pl mi (t := k) (by omega)
    have hw0 : 0 < (τ.2 6 7).toInt := by
      rw [← hE.1] at hpos
      exact_mod_cast hpos
    rw [f_X4_eliminate_15]
    refine ho_f (nI_nge' (by omega) (by omega)) (ho_f (fun e => ?_) (ho_chk (ib_nI (by omega) (by omega)) (ho_chk (ib_nI (by omega) (by omega)) (ho_nm ?_))))
    · rw [e] at hw0
      exact absurd hw0 (by decide)
    · rw [nI31 (by omega), rid]
      refine x_e41 (pl := pl) (mi := mi) hN hI hk hE (fun τ' hF' hr => ho_nm ?_) (nB N) 0 1000 τ (by omega) (by omega) Fr.refl (fun j hj => absurd hj (Nat.not_lt_zero j)) (fun j _ => rfl) rfl
      rw [nI_1]
      have h6 : τ'.2 6 = τ.2 6 := hF'.l (by decide)
      have h61 : τ'.1 6 = τ.1 6 := hF'.i (by decide)
      refine ih (k + 1) fuel _ (by omega) (by omega) ((hF.trans (hF'.mono (by decide))).sL (by decide)) (fun j hj => ?_) ?_ ⟨?_, fun i hi c hc hc2 => ?_⟩
      · rw [sL_off _ _ _ _ hj, h6]; exact hF6 j hj
      · rw [sL_1, h61]; exact hF61
      · rw [sL_at, hE.2 k hk k (Nat.le_refl k) (by omega), Vg_piv]
      · rw [sL_ne _ _ _ (show 10 + i ≠ 6 by omega)]
        exact hr i hi c (by omega) hc2
theorem x_eliminate (hN : NV N) (hI : IslN N lv sl) {σ : St} (hG : CG σ 24 N) (hR : RowsI σ (nB N) (MxI N lv sl (nL N) pl mi)) :
    Ho (f_X4_eliminate σ) (fun τ => Fr (6 :: r6) σ τ ∧ (∀ k, k ≠ 7 → τ.2 6 k = σ.2 6 k) ∧ τ.1 6 = σ.1 6 ∧ Eg N lv sl pl mi (nB N) τ) := by
  have hn := hN.2.1
  unfold f_X4_eliminate
  refine ho_nm (ho_nm ?_)
  rw [sL_1, hG.1]
  refine x_e15 (pl := pl) (mi := mi) hN hI (fun τ hF h6 h61 hE => ho_some ⟨hF, h6, h61, hE⟩) (nB N) 0 1000 _ (by omega) (by omega) (Fr.refl.sL (by decide)) (fun k hk => sL_off _ _ _ _ hk) rfl ⟨?_, fun i hi c _ hc => ?_⟩
  · rw [sL_at]; rfl
  · rw [sL_ne _ _ _ (show 10 + i ≠ 6 by omega), hR i hi c hc]
    unfold Vg
    rw [if_neg (Nat.not_lt_zero i), bm_0]
    rfl
end Gs
