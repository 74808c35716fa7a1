/-! the reference reads numbers and commands -/
section To
variable {t : Nat → Int32} {T : Nat} {σ : St}
theorem y_dig (hT : T ≤ 120) {a1 : Int32} {q2 : Int32 × St} {K : Int32 → Int32 → St → Option (Int32 × St)} {Q : Int32 × St → Prop} : ∀ (m r fuel : Nat) (v : Int32) (τ : St), m ≤ 3 → m < fuel → KY σ τ → τ.1 105 = σ.1 105 → SY t T τ r → (∀ c υ, 3 - m ≤ c → c ≤ 3 → (sD t T r = true → 0 < m → 3 - m < c) → (sD t T r = false → c = 3 - m) → KY σ υ → υ.1 105 = σ.1 105 → SY t T υ (dgD t T m r v).1 → Ho (K (nI c) (dgD t T m r v).2 υ) Q) → Ho (f_X6_number_43 a1 q2 K fuel (nI (3 - m)) v τ) Q := by
  intro m
  induction m with
  | zero =>
    intro r fuel v τ hm hf hF h5 hX hK
    obtain ⟨fuel, rfl⟩ : ∃ f, fuel = f + 1 := ⟨fuel - 1, by omega⟩
    rw [f_X6_number_43]
    exact ho_t (nI_ge' (a := 3) (by omega) (by omega)) (hK 3 τ (by omega) (by omega) (fun _ w => absurd w (by omega)) (fun _ => rfl) hF h5 hX)
  | succ m ih =>
    intro r fuel v τ hm hf hF h5 hX hK
    obtain ⟨fuel, rfl⟩ : ∃ f, fuel = f + 1 := ⟨fuel - 1, by omega⟩
    have rT := hX.2.2.2.1
    rw [f_X6_number_43, hX.2.2.1]
    refine ho_f (nI_nge' (a := 3) (by omega) (by omega)) (ho_be (y_isFigure hT hX rT) ?_)
    try dsimp only
    by_cases c : sD t T r = true
    · obtain ⟨r0, e⟩ := dgD_yes c m v
      rw [c]
      rw [hX.2.2.1, nI31 (by omega), hX.2.1 _ (by omega)]
      refine ho_f (by decide) (ho_chk (ib_nI (by omega) (by omega)) (ho_nm (ho_nm ?_)))
      rw [nI_1 (3 - (m + 1)), show 3 - (m + 1) + 1 = 3 - m by omega, show nI (T - r) + (1 : Int32) = nI (T - r + 1) from nI_1 _, show T - r + 1 = T - (r - 1) by omega, show (10 : Int32) * v = v * 10 by grind]
      rw [e] at hK
      refine ih (r - 1) fuel _ _ (by omega) (by omega) (hF.at _) (by rw [sI_ne _ _ _ (by decide)]; exact h5) (hX.put (by omega)) (fun c' υ a1 a2 a3 a4 a5 a6 a7 => hK c' υ (by omega) a2 (fun _ _ => by omega) (fun w => absurd w (by rw [c]; decide)) a5 a6 a7)
    · rw [bf_of c]
      have hK' := hK (3 - (m + 1)) τ (Nat.le_refl _) (by omega) (fun w => absurd w c) (fun _ => rfl) hF h5
      rw [dgD_no (bf_of c)] at hK'
      exact ho_t rfl (hK' hX)
theorem y_number (hT : T ≤ 120) (tb : ∀ k, k < T → ¬ t k = -1) {r : Nat} (h : SY t T σ r) {i : Nat} (hi : i < 4) (neg : Bool) : Ho (f_X6_number (nI i) (bI neg) σ) (fun q => KY σ q.2 ∧ SY t T q.2 (numF t T neg r).2.1 ∧ q.1 = bI (numF t T neg r).1 ∧ q.2.1 105 i = (numF t T neg r).2.2 ∧ ∀ j, j ≠ i → q.2.1 105 j = σ.1 105 j) := by
  unfold f_X6_number
  refine ho_bind (y_here hT h) (fun q hq => ?_)
  obtain ⟨q1, τ⟩ := q
  obtain ⟨K1, k1, hX, hv⟩ := hq
  try dsimp only at K1 k1 hX hv
  have rT := hX.2.2.2.1
  refine ho_jnP (fun p : Int32 × St => p.2 = τ ∧ p.1 = bI (mns t T neg (skD t T r))) (fun p hp => ?_) (fun j hj => ?_)
  · obtain ⟨p, p2⟩ := p
    obtain ⟨e1, e2⟩ := hp
    obtain rfl : p2 = τ := e1
    have e2' : p = bI (mns t T neg (skD t T r)) := e2
    subst e2'
    try dsimp only
    refine ho_jnP (fun s : Int32 × St => s = (bI (mns t T neg (skD t T r)), p2)) (fun s hs => ?_) (fun j hj => ?_)
    · subst hs
      try dsimp only
      have eN : numF t T neg r = (sD t T (if mns t T neg (skD t T r) = true then skD t T r - 1 else skD t T r) && !(sD t T (dgD t T 3 (if mns t T neg (skD t T r) = true then skD t T r - 1 else skD t T r) 0).1), (dgD t T 3 (if mns t T neg (skD t T r) = true then skD t T r - 1 else skD t T r) 0).1, if mns t T neg (skD t T r) = true then -(dgD t T 3 (if mns t T neg (skD t T r) = true then skD t T r - 1 else skD t T r) 0).2 else (dgD t T 3 (if mns t T neg (skD t T r) = true then skD t T r - 1 else skD t T r) 0).2) := rfl
      rw [eN]
      have hX2 : SY t T (sI p2 87 7 (p2.1 87 7 + bI (mns t T neg (skD t T r)))) (if mns t T neg (skD t T r) = true then skD t T r - 1 else skD t T r) := by
        by_cases c : mns t T neg (skD t T r) = true
        · have r0 : 0 < skD t T r := by
            unfold mns at c
            simp only [Bool.and_eq_true] at c
            exact of_decide_eq_true c.2.1
          rw [c, if_pos rfl]
          exact hX.adv r0
        · rw [bf_of c, if_neg (by decide), hX.2.2.1, show nI (T - skD t T r) + bI false = nI (T - skD t T r + 0) from nI_add _ 0]
          exact hX.put rT
      have K2 : KY σ (sI p2 87 7 (p2.1 87 7 + bI (mns t T neg (skD t T r)))) := K1.at _
      have k2 : (sI p2 87 7 (p2.1 87 7 + bI (mns t T neg (skD t T r)))).1 105 = σ.1 105 := by rw [sI_ne _ _ _ (by decide)]; exact k1
      generalize sI p2 87 7 (p2.1 87 7 + bI (mns t T neg (skD t T r))) = s at hX2 K2 k2
      generalize (if mns t T neg (skD t T r) = true then skD t T r - 1 else skD t T r) = r2 at hX2
      generalize mns t T neg (skD t T r) = m
      refine ho_nm ?_
      refine y_dig (σ := σ) (t := t) (T := T) hT 3 r2 1000 0 s (by omega) (by omega) K2 k2 hX2 (fun c υ c1 c2 c3 c4 K3 k3 hX3 => ?_)
      generalize dgD t T 3 r2 0 = d at hX3
      have rT3 := hX3.2.2.2.1
      refine ho_jnP (fun p : Int32 × St => p.2 = υ ∧ p.1 = (if m = true then -d.2 else d.2)) (fun p hp => ?_) (fun j hj => ?_)
      · obtain ⟨p, p3⟩ := p
        obtain ⟨e1, e2⟩ := hp
        obtain rfl : p3 = υ := e1
        have e2' : p = (if m = true then -d.2 else d.2) := e2
        subst e2'
        try dsimp only
        rw [nI31 (by omega)]
        have hX4 := hX3.num i (if m = true then -d.2 else d.2)
        have K4 := K3.num i (if m = true then -d.2 else d.2)
        have n4 : ∀ j, j ≠ i → (sI p3 105 i (if m = true then -d.2 else d.2)).1 105 j = σ.1 105 j := fun j hj => by rw [sI_off _ _ _ _ hj, k3]
        have v4 : (sI p3 105 i (if m = true then -d.2 else d.2)).1 105 i = (if m = true then -d.2 else d.2) := sI_at _ _ _ _
        refine ho_chk (ib_nI (by omega) (by omega)) (ho_nm ?_)
        by_cases cs : sD t T r2 = true
        · have cp : 0 < c := by have := c3 cs (by omega); omega
          obtain ⟨c', rfl⟩ : ∃ c', c = c' + 1 := ⟨c - 1, by omega⟩
          rw [cs, hX4.2.2.1]
          refine ho_f (nI_ps (by omega)) (ho_be (y_isFigure hT hX4 rT3) ?_)
          try dsimp only
          by_cases c5 : sD t T d.1 = true
          · rw [c5]
            exact ho_f (by decide) (ho_some ⟨K4, hX4, rfl, v4, n4⟩)
          · rw [bf_of c5]
            exact ho_t rfl (ho_some ⟨K4, hX4, rfl, v4, n4⟩)
        · have cz : c = 0 := c4 (bf_of cs)
          subst cz
          rw [bf_of cs]
          exact ho_t (by decide) (ho_some ⟨K4, hX4, rfl, v4, n4⟩)
      · try dsimp only
        cases m
        · exact ho_t rfl (hj _ ⟨rfl, rfl⟩)
        · exact ho_f (by decide) (hj _ ⟨rfl, rfl⟩)
    · try dsimp only
      cases hm : mns t T neg (skD t T r)
      · rw [hm] at hj; exact ho_t rfl (hj _ rfl)
      · rw [hm] at hj; exact ho_f (by decide) (hj _ rfl)
  · try dsimp only
    rw [hv]
    unfold hrV
    unfold mns at hj
    by_cases c1 : 0 < skD t T r
    · rw [if_pos c1]
      rw [decide_eq_true c1, Bool.true_and] at hj
      by_cases c2 : t (T - skD t T r) = 45
      · rw [decide_eq_true c2, Bool.and_true] at hj
        refine ho_t c2 ?_
        cases neg
        · exact ho_t rfl (hj _ ⟨rfl, rfl⟩)
        · exact ho_f (by decide) (hj _ ⟨rfl, rfl⟩)
      · rw [decide_eq_false c2, Bool.and_false] at hj
        exact ho_f c2 (hj _ ⟨rfl, rfl⟩)
    · rw [if_neg c1]
      rw [decide_eq_false c1, Bool.false_and, Bool.and_false] at hj
      exact ho_f (by decide) (hj _ ⟨rfl, rfl⟩)
theorem y_manyOf {k : Nat} (hk : k < 8) : f_X6_manyOf (nI k) σ = some (nI (manyN k), σ) := by
  have : k = 0 ∨ k = 1 ∨ k = 2 ∨ k = 3 ∨ k = 4 ∨ k = 5 ∨ k = 6 ∨ k = 7 := by omega
  rcases this with e | e | e | e | e | e | e | e <;> (subst e; rfl)
theorem y_nums (hT : T ≤ 120) (tb : ∀ k, k < T → ¬ t k = -1) {k : Nat} (hk : k < 8) {a1 : Int32} {σ0 : St} {K : St → Option (Int32 × St)} {Q : Int32 × St → Prop} : ∀ (n i fuel r : Nat) (τ : St), i + n = manyN k → n < fuel → KY σ τ → SY t T τ r →
    ((numsF t T k n i r).1 = true → ∀ υ, KY σ υ → SY t T υ (numsF t T k n i r).2.1 → (∀ j, j < i → υ.1 105 j = τ.1 105 j) → (∀ j, i ≤ j → j < manyN k → υ.1 105 j = (numsF t T k n i r).2.2.getD (j - i) 0) → Ho (K υ) Q) →
    ((numsF t T k n i r).1 = false → ∀ υ, KY σ υ → SY t T υ (numsF t T k n i r).2.1 → Q ((-1 : Int32), υ)) →
    Ho (f_X6_order_14 a1 (nI k, σ0) K fuel (nI i) τ) Q := by
  have m4 := manyN_le k
  intro n
  induction n with
  | zero =>
    intro i fuel r τ hd hf hF hX hok hno
    obtain ⟨fuel, rfl⟩ : ∃ f, fuel = f + 1 := ⟨fuel - 1, by omega⟩
    rw [f_X6_order_14]
    refine ho_be (y_manyOf hk) ?_
    exact ho_t (nI_ge' (by omega) (by omega)) (hok rfl τ hF hX (fun _ _ => rfl) (fun j a b => absurd b (by omega)))
  | succ n ih =>
    intro i fuel r τ hd hf hF hX hok hno
    obtain ⟨fuel, rfl⟩ : ∃ f, fuel = f + 1 := ⟨fuel - 1, by omega⟩
    rw [f_X6_order_14]
    refine ho_be (y_manyOf hk) (ho_f (nI_nge' (by omega) (by omega)) ?_)
    refine ho_jnP (fun p : Int32 × St => p = (bI (decide (k = 0) && decide (i = 1)), τ)) (fun p hp => ?_) (fun j hj => ?_)
    · subst hp
      try dsimp only
      refine ho_bind (y_number hT tb hX (show i < 4 by omega) (decide (k = 0) && decide (i = 1))) (fun q hq => ?_)
      obtain ⟨F2, hX2, q1, qv, qo⟩ := hq
      rw [q1]
      rw [numsF] at hok hno
      by_cases c : (numF t T (decide (k = 0) && decide (i = 1)) r).1 = true
      · rw [if_pos c] at hok hno
        rw [c]
        refine ho_f (by decide) ?_
        rw [nI_1 i]
        refine ih (i + 1) fuel _ q.2 (by omega) (by omega) (hF.trans F2) hX2 (fun w υ a1 a3 a4 a5 => hok w υ a1 a3 (fun j hj => ?_) (fun j hj1 hj2 => ?_)) (fun w υ a1 a2 => hno w υ a1 a2)
        · rw [a4 j (by omega), qo j (by omega)]
        · by_cases e : j = i
          · subst e
            rw [a4 j (by omega), qv, Nat.sub_self]
            rfl
          · rw [a5 j (by omega) hj2, show j - i = (j - (i + 1)) + 1 by omega]
            rfl
      · rw [if_neg c] at hok hno
        rw [bf_of c]
        exact ho_t rfl (ho_some (hno rfl q.2 (hF.trans F2) hX2))
    · try dsimp only
      by_cases c1 : k = 0
      · refine ho_t (by rw [c1]; rfl) ?_
        by_cases c2 : i = 1
        · refine ho_t (by rw [c2]; rfl) (hj _ ?_)
          rw [decide_eq_true c1, decide_eq_true c2]; rfl
        · refine ho_f (fun w => c2 (nI_inj (b := 1) (by omega) (by omega) w)) (hj _ ?_)
          rw [decide_eq_true c1, decide_eq_false c2]; rfl
      · refine ho_f (fun w => c1 (nI_inj (b := 0) (by omega) (by omega) w)) (hj _ ?_)
        rw [decide_eq_false c1]; rfl
theorem y_order (hT : T ≤ 120) (tb : ∀ k, k < T → ¬ t k = -1) {a1 : Int32} {r : Nat} (h : SY t T σ r) {Q : Int32 × St → Prop}
    (hok : (cmdF t T (skD t T r)).1 = true → ∀ υ, KY σ υ → SY t T υ (cmdF t T (skD t T r)).2.1 → (∀ i, i < manyN (cmdF t T (skD t T r)).2.2.1 → υ.1 105 i = (cmdF t T (skD t T r)).2.2.2.getD i 0) → Ho (if a1 = 0 then some ((0 : Int32), υ) else (f_X6_isDone (nI (cmdF t T (skD t T r)).2.2.1) υ).bind (fun q20 => if q20.1 = 0 then some ((0 : Int32), q20.2) else some ((1 : Int32), q20.2))) Q)
    (hno : (cmdF t T (skD t T r)).1 = false → ∀ υ, KY σ υ → SY t T υ (cmdF t T (skD t T r)).2.1 → Q ((-1 : Int32), υ)) :
    Ho (f_X6_order a1 σ) Q := by
  unfold f_X6_order
  refine ho_bind (y_word hT h) (fun q hq => ?_)
  obtain ⟨K1, k1, hq⟩ := hq
  generalize skD t T r = r1 at hok hno hq
  cases hw : wf t T r1 (ltD t T r1) with
  | none =>
    rw [hw] at hq
    rw [cmdF_none hw] at hno
    rw [hq.1]
    exact ho_t rfl (ho_some (hno rfl q.2 K1 hq.2))
  | some k =>
    rw [hw] at hq
    obtain ⟨q1, hX⟩ := hq
    have k8 := (wf_some hw).1
    obtain ⟨q0, τ⟩ := q
    try dsimp only at q1 hX K1 k1
    subst q1
    refine ho_f (nI_nm (by omega)) ?_
    refine y_nums (σ := σ) (t := t) (T := T) hT tb k8 (manyN k) 0 1000 (ltD t T r1) τ (by omega) (by have := manyN_le k; omega) K1 hX (fun w υ a1' a3 a4 a5 => ?_) (fun w υ a1 a2 => ?_)
    · refine ho_bind (y_here hT a3) (fun p hp => ?_)
      obtain ⟨p1, ω⟩ := p
      obtain ⟨K3, k3, hX3, pv⟩ := hp
      try dsimp only at K3 k3 hX3 pv
      try dsimp only
      rw [pv]
      unfold hrV
      by_cases c : 0 < skD t T (numsF t T k (manyN k) 0 (ltD t T r1)).2.1 ∧ t (T - skD t T (numsF t T k (manyN k) 0 (ltD t T r1)).2.1) = 59
      · rw [cmdF_ok hw w c] at hok
        rw [if_pos c.1]
        refine ho_t c.2 (ho_nm (hok rfl _ ((a1'.trans K3).at _) (hX3.adv c.1) (fun i hi => ?_)))
        rw [sI_ne _ _ _ (by decide), k3, a5 i (by omega) hi]
        rfl
      · rw [cmdF_end hw w c] at hno
        have fin : Ho (some ((-1 : Int32), ω)) Q := ho_some (hno rfl ω (a1'.trans K3) hX3)
        by_cases c1 : 0 < skD t T (numsF t T k (manyN k) 0 (ltD t T r1)).2.1
        · rw [if_pos c1]
          exact ho_f (fun z => c ⟨c1, z⟩) fin
        · rw [if_neg c1]
          exact ho_f (by decide) fin
    · rw [cmdF_bad hw w] at hno
      exact hno rfl υ a1 a2
end To
