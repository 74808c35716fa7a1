/-! the reference: the determinant -/
theorem sm_sw {f : Nat → Rat} {i j n : Nat} (hij : i < j) (hj : j < n) : sm (fun r => f (if r = i then j else if r = j then i else r)) n = sm f n := by
  have h := sm_two (f := fun r => f (if r = i then j else if r = j then i else r) + - f r) hij hj (fun k _ h1 h2 => by (try dsimp only); rw [if_neg h1, if_neg h2]; grind)
  try dsimp only at h
  rw [if_pos rfl, if_neg (show ¬ j = i by omega), if_pos rfl, sm_add, sm_neg] at h
  grind
theorem dt_zero : ∀ {k n : Nat} {P : Nat → Nat → Rat}, k < n → (∀ t, 1 ≤ t → t ≤ k → dt t P ≠ 0) → (∀ r, k ≤ r → r < n → bm P k r k = 0) → dt n P = 0
  | 0, n, P, hk, _, h => by
    have e : dt n (cr P 0 (fun r => (0 : Rat) * P r 0 + (0 : Rat) * P r 0)) = dt n P := dt_congr (fun r c hr hc => by
      unfold cr
      by_cases q : c = 0
      · rw [if_pos q, q]
        have := h r (Nat.zero_le r) hr
        rw [bm_0] at this
        grind
      · rw [if_neg q])
    rw [← e, dt_lin 0 0 hk]
    grind
  | k + 1, n, P, hk, hd, h => by
    obtain ⟨n, rfl⟩ : ∃ m, n = m + 1 := ⟨n - 1, by omega⟩
    have hp : P 0 0 ≠ 0 := by have := hd 1 (by omega) (by omega); rw [dt_1] at this; exact this
    rw [dt_schur hp, dt_zero (k := k) (n := n) (P := Sc P) (by omega) (fun t h1 h2 => ?_) (fun r h1 h2 => ?_)]
    · grind
    · have := hd (t + 1) (by omega) (by omega)
      rw [dt_schur hp] at this
      intro e
      rw [e] at this
      grind
    · have := h (r + 1) (by omega) (by omega)
      rw [bm_schur hp] at this
      have : P 0 0 = 0 ∨ bm (Sc P) k r k = 0 := by grind
      grind
theorem l_ex2 {p r t q w : Int64} {z : Int} (he : p.toInt * r.toInt - t.toInt * q.toInt = w.toInt * z) (hw : w.toInt ≠ 0) (h1 : -9223372036854775807 ≤ w.toInt * z) (h2 : w.toInt * z < 9223372036854775808) : ((p * r - t * q) / w).toInt = z := by
  have e : (p * r - t * q).toInt = w.toInt * z := by
    rw [Int64.toInt_sub, Int64.toInt_mul, Int64.toInt_mul]
    have e9 : ((p.toInt * r.toInt).bmod (2 ^ 64) - (t.toInt * q.toInt).bmod (2 ^ 64)).bmod (2 ^ 64) = (p.toInt * r.toInt - t.toInt * q.toInt).bmod (2 ^ 64) := by simp
    rw [e9, he]
    exact fb_bmodL (by omega) h2
  have hz : z.natAbs ≤ (w.toInt * z).natAbs := by
    rw [Int.natAbs_mul]
    exact Nat.le_mul_of_pos_left _ (by omega)
  rw [Int64.toInt_div, e, Int.mul_tdiv_cancel_left _ hw]
  exact fb_bmodL (by omega) (by omega)
theorem p100 : ∀ t, t ≤ 5 → 0 ≤ pr (fun _ => 100) t ∧ pr (fun _ => 100) t ≤ 10000000000 ∧ (t ≤ 3 → pr (fun _ => 100) t ≤ 1000000) := by
  have h0 : pr (fun _ => 100) 0 = 1 := rfl
  have h1 : pr (fun _ => 100) 1 = 100 := by rw [pr, h0]; grind
  have h2 : pr (fun _ => 100) 2 = 10000 := by rw [pr, h1]; grind
  have h3 : pr (fun _ => 100) 3 = 1000000 := by rw [pr, h2]; grind
  have h4 : pr (fun _ => 100) 4 = 100000000 := by rw [pr, h3]; grind
  have h5 : pr (fun _ => 100) 5 = 10000000000 := by rw [pr, h4]; grind
  intro t ht
  match t, ht with
  | 0, _ => rw [h0]; grind
  | 1, _ => rw [h1]; grind
  | 2, _ => rw [h2]; grind
  | 3, _ => rw [h3]; grind
  | 4, _ => rw [h4]; exact ⟨by grind, by grind, fun h => absurd h (by omega)⟩
  | 5, _ => rw [h5]; exact ⟨by grind, by grind, fun h => absurd h (by omega)⟩
theorem prc {g : Nat → Rat} {t e : Nat} (ht : t ≤ 5) (hg : ∀ d, d < t → 0 ≤ g d ∧ g d ≤ 100 * (if d = e then 495 / 100 else 1)) : pr g t ≤ 49500000000 ∧ (t ≤ 3 → pr g t ≤ 4950000) := by
  have h := pr_le hg
  rw [pr_mul] at h
  obtain ⟨h1, h2, h5⟩ := p100 t ht
  obtain ⟨h3, h4⟩ := pr_sp (u := 495 / 100) (by grind) e t
  have a := mul_le2 h2 h4 h3 (by grind)
  refine ⟨by grind, fun q => ?_⟩
  have a := mul_le2 (h5 q) h4 h3 (by grind)
  grind
def bd5 (e c : Nat) : Rat := if c = e then 495 else 100
theorem bd5_le (e c : Nat) : bd5 e c ≤ 100 * (if c = e then 495 / 100 else 1) := by unfold bd5; split <;> grind
section Db
variable {M e : Nat} {P : Nat → Nat → Rat}
theorem dP_bd (hM : M ≤ 5) (hc : ∀ c, c < M → sm (fun r => ab (P r c)) M ≤ bd5 e c) {k : Nat} (hk : k ≤ 3) (hkM : k ≤ M) : ab (dt k P) ≤ 4950000 := by
  refine Rat.le_trans (dt_cols k P) ((prc (e := e) (by omega) (fun d hd => ⟨sm_nn (fun r _ => ab_nn _), ?_⟩)).2 hk)
  have q := sm_part (f := fun r => ab (P r d)) hkM (fun r => ab_nn _)
  exact Rat.le_trans q (Rat.le_trans (hc d (by omega)) (bd5_le e d))
theorem bP_bd (hM : M ≤ 5) (hc : ∀ c, c < M → sm (fun r => ab (P r c)) M ≤ bd5 e c) {k i j : Nat} (hki : k < i) (hi : i < M) (hkj : k < j) (hj : j < M) : ab (bm P (k + 1) i j) ≤ 49500000000 := by
  refine Rat.le_trans (dt_cols (k + 1 + 1) _) (prc (e := if j = e then k + 1 else e) (by omega) (fun d hd => ⟨sm_nn (fun r _ => ab_nn _), ?_⟩)).1
  have key : ∀ d', d' < M → sm (fun r => ab (P (if r < k + 1 then r else i) d')) (k + 1 + 1) ≤ bd5 e d' := by
    intro d' hd'
    rw [sm, if_neg (Nat.lt_irrefl _), sm_congr (g := fun r => ab (P r d')) (fun r hr => by rw [if_pos hr])]
    have q1 := sm_part (f := fun r => ab (P r d')) (t := k + 1) (n := i) (by omega) (fun r => ab_nn _)
    have q2 := sm_part (f := fun r => ab (P r d')) (t := i + 1) (n := M) (by omega) (fun r => ab_nn _)
    rw [sm] at q2
    have := hc d' hd'
    grind
  by_cases q : d < k + 1
  · have q1 : sm (fun r => ab (P (if r < k + 1 then r else i) (if d < k + 1 then d else j))) (k + 1 + 1) = sm (fun r => ab (P (if r < k + 1 then r else i) d)) (k + 1 + 1) := sm_congr (fun r _ => by rw [if_pos q])
    rw [q1]
    have a := key d (by omega)
    unfold bd5 at a
    by_cases w : j = e
    · rw [if_pos w, if_neg (show ¬ d = k + 1 by omega)]
      rw [if_neg (show ¬ d = e by omega)] at a
      grind
    · rw [if_neg w]
      exact Rat.le_trans (key d (by omega)) (bd5_le e d)
  · have q1 : sm (fun r => ab (P (if r < k + 1 then r else i) (if d < k + 1 then d else j))) (k + 1 + 1) = sm (fun r => ab (P (if r < k + 1 then r else i) j)) (k + 1 + 1) := sm_congr (fun r _ => by rw [if_neg q])
    rw [q1]
    have a := key j hj
    unfold bd5 at a
    by_cases w : j = e
    · rw [if_pos w, if_pos (show d = k + 1 by omega)]
      rw [if_pos w] at a
      grind
    · rw [if_neg w] at a ⊢
      split <;> grind
end Db
theorem bm_int {P : Nat → Nat → Rat} (h : ∀ r c, isI (P r c)) (k i j : Nat) : isI (bm P k i j) := isI_dt (fun r c _ _ => h _ _)
section Dt
variable {M : Nat}
theorem y_d20 {τ : St} {k : Nat} {x1 x2 : Int64} (hM : M ≤ 5) (h14 : τ.1 87 14 = nI M) (hk : k < M) {K : Int32 → St → Option (Int64 × St)} {Q : Int64 × St → Prop}
    (hK : ∀ p, k ≤ p → p ≤ M → (∀ r, k ≤ r → r < p → τ.2 97 (6 * r + k) = 0) → (p < M → τ.2 97 (6 * p + k) ≠ 0) → Ho (K (nI p) τ) Q) :
    ∀ (d p fuel : Nat), p + d = M → d < fuel → k ≤ p → (∀ r, k ≤ r → r < p → τ.2 97 (6 * r + k) = 0) → Ho (f_X6_determinant_20 x1 x2 (nI k) K fuel (nI p) τ) Q := by
  intro d
  induction d with
  | zero =>
    intro p fuel hd hf hkp h0
    obtain ⟨fuel, rfl⟩ : ∃ f, fuel = f + 1 := ⟨fuel - 1, by omega⟩
    rw [f_X6_determinant_20, h14]
    exact ho_t (nI_ge' (by omega) (by omega)) (hK p hkp (by omega) h0 (fun h => absurd h (by omega)))
  | succ d ih =>
    intro p fuel hd hf hkp h0
    obtain ⟨fuel, rfl⟩ : ∃ f, fuel = f + 1 := ⟨fuel - 1, by omega⟩
    rw [f_X6_determinant_20, h14, ix6, nI31 (k := 6 * p + k) (by omega)]
    refine ho_f (nI_nge' (by omega) (by omega)) (ho_chk (ib_nI (by omega) (by omega)) (ho_if (fun c => ?_) (fun c => ?_)))
    · rw [nI_1]
      refine ih (p + 1) fuel (by omega) (by omega) (by omega) (fun r h1 h2 => ?_)
      by_cases q : r = p
      · rw [q]; exact c
      · exact h0 r h1 (by omega)
    · exact hK p hkp (by omega) h0 (fun _ => c)
theorem y_d103 {τ0 : St} {k r : Nat} {x1 : Int64} {q : Int64 × St} {z : Nat → Int} (hM : M ≤ 5) (h14 : τ0.1 87 14 = nI M) (hr : r < M) (hkr : k < r) (hw : x1.toInt ≠ 0)
    (hz : ∀ c, k < c → c < M → (τ0.2 97 (6 * r + c)).toInt * (τ0.2 97 (7 * k)).toInt - (τ0.2 97 (6 * r + k)).toInt * (τ0.2 97 (6 * k + c)).toInt = x1.toInt * z c ∧ -9223372036854775807 ≤ x1.toInt * z c ∧ x1.toInt * z c < 9223372036854775808)
    {K : St → Option (Int64 × St)} {Q : Int64 × St → Prop}
    (hK : ∀ τ : St, τ.1 = τ0.1 → Fr [97] τ0 τ → (∀ c, k < c → c < M → (τ.2 97 (6 * r + c)).toInt = z c) → (∀ r' c', c' < 6 → r' ≠ r ∨ c' ≤ k → τ.2 97 (6 * r' + c') = τ0.2 97 (6 * r' + c')) → Ho (K τ) Q) :
    ∀ (d c fuel : Nat) (τ : St), c + d = M → d < fuel → k < c → τ.1 = τ0.1 → Fr [97] τ0 τ → (∀ c', k < c' → c' < c → (τ.2 97 (6 * r + c')).toInt = z c') → (∀ r' c', c' < 6 → r' ≠ r ∨ c' ≤ k ∨ c ≤ c' → τ.2 97 (6 * r' + c') = τ0.2 97 (6 * r' + c')) → Ho (f_X6_determinant_103 x1 (nI k) q (nI r) K fuel (nI c) τ) Q := by
  intro d
  induction d with
  | zero =>
    intro c fuel τ hd hf hkc h1 hF hC hO
    obtain ⟨fuel, rfl⟩ : ∃ f, fuel = f + 1 := ⟨fuel - 1, by omega⟩
    rw [f_X6_determinant_103, h1, h14]
    exact ho_t (nI_ge' (by omega) (by omega)) (hK τ h1 hF (fun c' a b => hC c' a (by omega)) (fun r' c' a b => hO r' c' a (by omega)))
  | succ d ih =>
    intro c fuel τ hd hf hkc h1 hF hC hO
    obtain ⟨fuel, rfl⟩ : ∃ f, fuel = f + 1 := ⟨fuel - 1, by omega⟩
    obtain ⟨z1, z2, z3⟩ := hz c hkc (by omega)
    have e7 : 7 * k = 6 * k + k := by omega
    rw [f_X6_determinant_103, h1, h14, ix6, ix6, ix6, ix7, nI31 (k := 6 * r + c) (by omega), nI31 (k := 6 * r + k) (by omega), nI31 (k := 6 * k + c) (by omega), nI31 (k := 7 * k) (by omega), hO r c (by omega) (by omega), hO r k (by omega) (by omega), hO k c (by omega) (by omega), e7, hO k k (by omega) (by omega), ← e7]
    refine ho_f (nI_nge' (by omega) (by omega)) (ho_chk (ib_nI (by omega) (by omega)) (ho_chk (ib_nI (by omega) (by omega)) (ho_chk (ib_nI (by omega) (by omega)) (ho_chk (ib_nI (by omega) (by omega)) (ho_chk (decide_eq_true (fun w => hw (by rw [w]; rfl))) (ho_nm ?_))))))
    rw [nI_1]
    refine ih (c + 1) fuel _ (by omega) (by omega) (by omega) (by rw [sL_1]; exact h1) (hF.sL (by decide)) (fun c' a b => ?_) (fun r' c' a b => ?_)
    · by_cases w : c' = c
      · rw [w, sL_at]
        exact l_ex2 z1 hw z2 z3
      · rw [sL_off _ _ _ _ (by omega)]; exact hC c' a (by omega)
    · rw [sL_off _ _ _ _ (by omega)]; exact hO r' c' a (by omega)
theorem y_d88 {τ0 : St} {k : Nat} {x1 : Int64} {q : Int64 × St} {z : Nat → Nat → Int} (hM : M ≤ 5) (h14 : τ0.1 87 14 = nI M) (hw : x1.toInt ≠ 0) (hk : k < M)
    (hz : ∀ r c, k < r → r < M → k < c → c < M → (τ0.2 97 (6 * r + c)).toInt * (τ0.2 97 (7 * k)).toInt - (τ0.2 97 (6 * r + k)).toInt * (τ0.2 97 (6 * k + c)).toInt = x1.toInt * z r c ∧ -9223372036854775807 ≤ x1.toInt * z r c ∧ x1.toInt * z r c < 9223372036854775808)
    {K : St → Option (Int64 × St)} {Q : Int64 × St → Prop}
    (hK : ∀ τ : St, τ.1 = τ0.1 → Fr [97] τ0 τ → (∀ r c, k < r → r < M → k < c → c < M → (τ.2 97 (6 * r + c)).toInt = z r c) → τ.2 97 (7 * k) = τ0.2 97 (7 * k) → Ho (K τ) Q) :
    ∀ (d r fuel : Nat) (τ : St), r + d = M → d < fuel → k < r → τ.1 = τ0.1 → Fr [97] τ0 τ → (∀ r' c, k < r' → r' < r → k < c → c < M → (τ.2 97 (6 * r' + c)).toInt = z r' c) → (∀ r' c', c' < 6 → r' ≤ k ∨ r ≤ r' → τ.2 97 (6 * r' + c') = τ0.2 97 (6 * r' + c')) → Ho (f_X6_determinant_88 x1 (nI k) q K fuel (nI r) τ) Q := by
  have e7 : 7 * k = 6 * k + k := by omega
  intro d
  induction d with
  | zero =>
    intro r fuel τ hd hf hkr h1 hF hC hO
    obtain ⟨fuel, rfl⟩ : ∃ f, fuel = f + 1 := ⟨fuel - 1, by omega⟩
    rw [f_X6_determinant_88, h1, h14]
    exact ho_t (nI_ge' (by omega) (by omega)) (hK τ h1 hF (fun r' c a b => hC r' c a (by omega)) (by rw [e7]; exact hO k k (by omega) (by omega)))
  | succ d ih =>
    intro r fuel τ hd hf hkr h1 hF hC hO
    obtain ⟨fuel, rfl⟩ : ∃ f, fuel = f + 1 := ⟨fuel - 1, by omega⟩
    rw [f_X6_determinant_88, h1, h14, nI_1]
    refine ho_f (nI_nge' (by omega) (by omega)) (ho_nm ?_)
    refine y_d103 (τ0 := τ) (r := r) (z := z r) hM (by rw [h1]; exact h14) (by omega) hkr hw (fun c a b => ?_) (fun υ g1 gF gC gO => ?_) (M - (k + 1)) (k + 1) 1000 τ (by omega) (by omega) (by omega) rfl Fr.refl (fun c' a b => absurd a (by omega)) (fun _ _ _ _ => rfl)
    · rw [e7, hO r c (by omega) (by omega), hO r k (by omega) (by omega), hO k c (by omega) (by omega), hO k k (by omega) (by omega), ← e7]
      exact hz r c hkr (by omega) a b
    · rw [nI_1]
      refine ih (r + 1) fuel υ (by omega) (by omega) (by omega) (g1.trans h1) (hF.trans gF) (fun r' c a b a2 b2 => ?_) (fun r' c' a b => ?_)
      · by_cases w : r' = r
        · rw [w]; exact gC c a2 b2
        · rw [gO r' c (by omega) (Or.inl w)]; exact hC r' c a (by omega) a2 b2
      · rw [gO r' c' a (Or.inl (by omega))]; exact hO r' c' a (by omega)
end Dt
