/-! the class reads numbers, commands, faults -/
section Tn
variable {t : Nat → Int32} {T : Nat} {σ : St}
theorem dgD_no {r : Nat} (h : sD t T r = false) (m : Nat) (v : Int32) : dgD t T m r v = (r, v) := by
  unfold sD at h
  match m, r with
  | 0, r => rfl
  | m + 1, 0 => rfl
  | m + 1, r + 1 =>
    rw [decide_eq_true (Nat.succ_pos r), Bool.true_and] at h
    rw [dgD, if_neg (by rw [h]; decide)]
theorem dgD_yes {r : Nat} (h : sD t T r = true) (m : Nat) (v : Int32) : 0 < r ∧ dgD t T (m + 1) r v = dgD t T m (r - 1) ((v * 10 + t (T - r)) - 48) := by
  unfold sD at h
  rw [Bool.and_eq_true] at h
  have r0 : 0 < r := of_decide_eq_true h.1
  obtain ⟨s, rfl⟩ : ∃ s, r = s + 1 := ⟨r - 1, by omega⟩
  refine ⟨r0, ?_⟩
  rw [dgD, if_pos h.2]
  rfl
theorem SX.adv {r : Nat} (h : SX t T σ r) (hr : 0 < r) : SX t T (sI σ 3 3 (σ.1 3 3 + (1 : Int32))) (r - 1) := by
  have rT := h.2.2.2
  rw [h.2.2.1, show nI (T - r) + (1 : Int32) = nI (T - r + 1) from nI_1 _, show T - r + 1 = T - (r - 1) by omega]
  exact h.put (by omega)
theorem x_dig (hT : T ≤ 120) {a1 : Int32} {q2 : Int32 × St} {K : Int32 → St → Option (Int32 × St)} {Q : Int32 × St → Prop} : ∀ (m r fuel : Nat) (v : Int32) (τ : St), m ≤ 3 → m < fuel → Fr [3] σ τ → τ.1 3 4 = σ.1 3 4 → SX t T τ r → (∀ υ, Fr [3] σ υ → υ.1 3 4 = σ.1 3 4 → SX t T υ (dgD t T m r v).1 → Ho (K (dgD t T m r v).2 υ) Q) → Ho (f_X3_readNumber_52 a1 q2 K fuel v (nI (3 - m)) τ) Q := by
  intro m
  induction m with
  | zero =>
    intro r fuel v τ hm hf hF h4 hX hK
    obtain ⟨fuel, rfl⟩ : ∃ f, fuel = f + 1 := ⟨fuel - 1, by omega⟩
    rw [f_X3_readNumber_52]
    exact ho_t (nI_ge' (a := 3) (by omega) (by omega)) (hK τ hF h4 hX)
  | succ m ih =>
    intro r fuel v τ hm hf hF h4 hX hK
    obtain ⟨fuel, rfl⟩ : ∃ f, fuel = f + 1 := ⟨fuel - 1, by omega⟩
    have rT := hX.2.2.2
    rw [f_X3_readNumber_52]
    refine ho_f (nI_nge' (a := 3) (by omega) (by omega)) (ho_be (x_seesDigit hT hX) ?_)
    try dsimp only
    by_cases c : sD t T r = true
    · obtain ⟨r0, e⟩ := dgD_yes c m v
      rw [c]
      rw [hX.2.2.1, nI31 (by omega), hX.2.1 _ (by omega)]
      refine ho_f (by decide) (ho_chk (ib_nI (by omega) (by omega)) (ho_nm (ho_nm ?_)))
      rw [nI_1 (3 - (m + 1)), show 3 - (m + 1) + 1 = 3 - m by omega, show nI (T - r) + (1 : Int32) = nI (T - r + 1) from nI_1 _, show T - r + 1 = T - (r - 1) by omega]
      rw [e] at hK
      exact ih (r - 1) fuel _ _ (by omega) (by omega) (hF.sI (by decide)) (by rw [sI_off _ _ _ _ (by decide)]; exact h4) (hX.put (by omega)) hK
    · rw [bf_of c]
      rw [dgD_no (bf_of c)] at hK
      exact ho_t rfl (hK τ hF h4 hX)
theorem x_readNumber (hT : T ≤ 120) {r : Nat} (h : SX t T σ r) {i : Nat} (hi : i < 4) (neg : Bool) : Ho (f_X3_readNumber (nI i) (bI neg) σ) (fun q => Fr [3, 5] σ q.2 ∧ q.2.1 3 4 = σ.1 3 4 ∧ SX t T q.2 (numF t T neg r).2.1 ∧ q.1 = bI (numF t T neg r).1 ∧ ((numF t T neg r).1 = true → q.2.1 5 i = (numF t T neg r).2.2) ∧ ∀ j, j ≠ i → q.2.1 5 j = σ.1 5 j) := by
  unfold f_X3_readNumber
  refine ho_bind (x_skip hT h) (fun τ hτ => ?_)
  obtain ⟨F1, k1, hX⟩ := hτ
  have rT := hX.2.2.2
  refine ho_jnP (fun p : Int32 × St => p.2 = τ ∧ p.1 = bI (mns t T neg (skD t T r))) (fun p hp => ?_) (fun j hj => ?_)
  · obtain ⟨p, p2⟩ := p
    obtain ⟨e1, e2⟩ := hp
    obtain rfl : p2 = τ := e1
    have e2' : p = bI (mns t T neg (skD t T r)) := e2
    subst e2'
    try dsimp only
    refine ho_jnP (fun s : St => Fr [3] σ s ∧ s.1 3 4 = σ.1 3 4 ∧ SX t T s (if mns t T neg (skD t T r) = true then skD t T r - 1 else skD t T r)) (fun s hs => ?_) (fun j hj => ?_)
    · obtain ⟨F2, k2, hX2⟩ := hs
      have eN : numF t T neg r = (sD t T (if mns t T neg (skD t T r) = true then skD t T r - 1 else skD t T r) && !(sD t T (dgD t T 3 (if mns t T neg (skD t T r) = true then skD t T r - 1 else skD t T r) 0).1), (dgD t T 3 (if mns t T neg (skD t T r) = true then skD t T r - 1 else skD t T r) 0).1, if mns t T neg (skD t T r) = true then -(dgD t T 3 (if mns t T neg (skD t T r) = true then skD t T r - 1 else skD t T r) 0).2 else (dgD t T 3 (if mns t T neg (skD t T r) = true then skD t T r - 1 else skD t T r) 0).2) := rfl
      rw [eN]
      generalize (if mns t T neg (skD t T r) = true then skD t T r - 1 else skD t T r) = r2 at hX2
      generalize mns t T neg (skD t T r) = m
      try dsimp only
      refine ho_be (x_seesDigit hT hX2) ?_
      try dsimp only
      by_cases c : sD t T r2 = true
      · rw [c]
        refine ho_f (by decide) (x_dig (σ := σ) (t := t) (T := T) hT 3 r2 1000 0 s (by omega) (by omega) F2 k2 hX2 (fun υ F3 k3 hX3 => ?_))
        generalize dgD t T 3 r2 0 = d at hX3
        refine ho_jnP (fun p : Int32 × St => p.2 = υ ∧ p.1 = (if m = true then -d.2 else d.2)) (fun p hp => ?_) (fun j hj => ?_)
        · obtain ⟨p, p2⟩ := p
          obtain ⟨e1, e2⟩ := hp
          obtain rfl : p2 = υ := e1
          have e2' : p = (if m = true then -d.2 else d.2) := e2
          subst e2'
          try dsimp only
          rw [nI31 (by omega)]
          have hX4 : SX t T (sI p2 5 i (if m = true then -d.2 else d.2)) d.1 := hX3.i (Fr.refl.sI (by decide))
          refine ho_chk (ib_nI (by omega) (by omega)) (ho_nm (ho_be (x_seesDigit hT hX4) ?_))
          try dsimp only
          have F4 : Fr [3, 5] σ (sI p2 5 i (if m = true then -d.2 else d.2)) := (F3.mono (by decide)).sI (by decide)
          have k4 : (sI p2 5 i (if m = true then -d.2 else d.2)).1 3 4 = σ.1 3 4 := by rw [sI_ne _ _ _ (by decide)]; exact k3
          have n4 : ∀ j, j ≠ i → (sI p2 5 i (if m = true then -d.2 else d.2)).1 5 j = σ.1 5 j := fun j hj => by rw [sI_off _ _ _ _ hj, F3.i (i := 5) (by decide)]
          by_cases c2 : sD t T d.1 = true
          · rw [c2]
            exact ho_f (by decide) (ho_some ⟨F4, k4, hX4, rfl, fun w => absurd w (by decide), n4⟩)
          · rw [bf_of c2]
            exact ho_t rfl (ho_some ⟨F4, k4, hX4, rfl, fun _ => sI_at _ _ _ _, n4⟩)
        · try dsimp only
          cases m
          · exact ho_t rfl (hj _ ⟨rfl, rfl⟩)
          · exact ho_f (by decide) (hj _ ⟨rfl, rfl⟩)
      · rw [bf_of c]
        have c' := bf_of c
        refine ho_t rfl (ho_some ⟨F2.mono (by decide), k2, ?_, rfl, fun w => absurd (show false = true from w) (by decide), fun j _ => by rw [F2.i (i := 5) (by decide)]⟩)
        show SX t T s (dgD t T 3 r2 0).1
        rw [dgD_no c']
        exact hX2
    · try dsimp only
      by_cases c : mns t T neg (skD t T r) = true
      · have r0 : 0 < skD t T r := by
          unfold mns at c
          simp only [Bool.and_eq_true] at c
          exact of_decide_eq_true c.2.1
        rw [c] at hj ⊢
        refine ho_f (by decide) (ho_nm (hj _ ⟨F1.sI (by decide), by rw [sI_off _ _ _ _ (by decide)]; exact k1, ?_⟩))
        rw [if_pos rfl]
        exact hX.adv r0
      · have c' := bf_of c
        rw [c'] at hj ⊢
        refine ho_t rfl (hj _ ⟨F1, k1, ?_⟩)
        rw [if_neg (by decide)]
        exact hX
  · try dsimp only
    unfold mns at hj
    cases neg
    · exact ho_t rfl (hj _ ⟨rfl, rfl⟩)
    · refine ho_f (by decide) (ho_be (x_sees hT hX 45) ?_)
      try dsimp only
      rw [Bool.true_and] at hj
      by_cases c : 0 < skD t T r ∧ t (T - skD t T r) = 45
      · rw [decide_eq_true c]
        rw [decide_eq_true c.1, decide_eq_true c.2] at hj
        exact ho_f (by decide) (hj _ ⟨rfl, rfl⟩)
      · rw [decide_eq_false c]
        refine ho_t rfl (hj _ ⟨rfl, ?_⟩)
        by_cases c1 : 0 < skD t T r
        · rw [decide_eq_true c1, decide_eq_false (fun w => c ⟨c1, w⟩)]; rfl
        · rw [decide_eq_false c1]; rfl
theorem x_numbersOf {k : Nat} (hk : k < 8) : f_X3_numbersOf (nI k) σ = some (nI (manyN k), σ) := by
  have : k = 0 ∨ k = 1 ∨ k = 2 ∨ k = 3 ∨ k = 4 ∨ k = 5 ∨ k = 6 ∨ k = 7 := by omega
  rcases this with e | e | e | e | e | e | e | e <;> (subst e; rfl)
theorem manyN_le (k : Nat) : manyN k ≤ 4 := by unfold manyN; split <;> (try split) <;> omega
theorem x_nums (hT : T ≤ 120) {k : Nat} (hk : k < 8) {K : St → Option (Int32 × St)} {Q : Int32 × St → Prop} : ∀ (n i fuel r : Nat) (τ : St), i + n = manyN k → n < fuel → Fr [3, 5] σ τ → τ.1 3 4 = nI k → SX t T τ r →
    ((numsF t T k n i r).1 = true → ∀ υ, Fr [3, 5] σ υ → υ.1 3 4 = nI k → SX t T υ (numsF t T k n i r).2.1 → (∀ j, j < i → υ.1 5 j = τ.1 5 j) → (∀ j, i ≤ j → j < manyN k → υ.1 5 j = (numsF t T k n i r).2.2.getD (j - i) 0) → Ho (K υ) Q) →
    ((numsF t T k n i r).1 = false → ∀ υ, Fr [3, 5] σ υ → SX t T υ (numsF t T k n i r).2.1 → Q ((0 : Int32), υ)) →
    Ho (f_X3_readCommand_19 (nI (manyN k), σ) K fuel (nI i) τ) Q := by
  have m4 := manyN_le k
  intro n
  induction n with
  | zero =>
    intro i fuel r τ hd hf hF h4 hX hok hno
    obtain ⟨fuel, rfl⟩ : ∃ f, fuel = f + 1 := ⟨fuel - 1, by omega⟩
    rw [f_X3_readCommand_19]
    exact ho_t (nI_ge' (by omega) (by omega)) (hok rfl τ hF h4 hX (fun _ _ => rfl) (fun j a b => absurd b (by omega)))
  | succ n ih =>
    intro i fuel r τ hd hf hF h4 hX hok hno
    obtain ⟨fuel, rfl⟩ : ∃ f, fuel = f + 1 := ⟨fuel - 1, by omega⟩
    rw [f_X3_readCommand_19]
    refine ho_f (nI_nge' (by omega) (by omega)) ?_
    refine ho_jnP (fun p : Int32 × St => p = (bI (decide (k = 0) && decide (i = 1)), τ)) (fun p hp => ?_) (fun j hj => ?_)
    · subst hp
      try dsimp only
      refine ho_bind (x_readNumber hT hX (show i < 4 by omega) (decide (k = 0) && decide (i = 1))) (fun q hq => ?_)
      obtain ⟨F2, k2, hX2, q1, qv, qo⟩ := hq
      rw [q1]
      rw [numsF] at hok hno
      by_cases c : (numF t T (decide (k = 0) && decide (i = 1)) r).1 = true
      · rw [if_pos c] at hok hno
        rw [c]
        refine ho_f (by decide) ?_
        rw [nI_1 i]
        refine ih (i + 1) fuel _ q.2 (by omega) (by omega) (hF.trans F2) (by rw [k2]; exact h4) hX2 (fun w υ a1 a2 a3 a4 a5 => hok w υ a1 a2 a3 (fun j hj => ?_) (fun j hj1 hj2 => ?_)) (fun w υ a1 a2 => hno w υ a1 a2)
        · rw [a4 j (by omega), qo j (by omega)]
        · by_cases e : j = i
          · subst e
            rw [a4 j (by omega), qv c, Nat.sub_self]
            rfl
          · rw [a5 j (by omega) hj2, show j - i = (j - (i + 1)) + 1 by omega]
            rfl
      · rw [if_neg c] at hok hno
        rw [bf_of c]
        exact ho_t rfl (ho_some (hno rfl q.2 (hF.trans F2) hX2))
    · rw [h4]
      by_cases c1 : k = 0
      · refine ho_t (by rw [c1]; rfl) ?_
        by_cases c2 : i = 1
        · refine ho_t (by rw [c2]; rfl) (hj _ ?_)
          rw [decide_eq_true c1, decide_eq_true c2]; rfl
        · refine ho_f (fun w => c2 (nI_inj (b := 1) (by omega) (by omega) w)) (hj _ ?_)
          rw [decide_eq_true c1, decide_eq_false c2]; rfl
      · refine ho_f (fun w => c1 (nI_inj (b := 0) (by omega) (by omega) w)) (hj _ ?_)
        rw [decide_eq_false c1]; rfl
theorem cmdF_none {r : Nat} (hw : wf t T r (ltD t T r) = none) : cmdF t T r = (false, r, 0, []) := by unfold cmdF; rw [hw]
theorem cmdF_bad {r k : Nat} (hw : wf t T r (ltD t T r) = some k) (w : (numsF t T k (manyN k) 0 (ltD t T r)).1 = false) : cmdF t T r = (false, (numsF t T k (manyN k) 0 (ltD t T r)).2.1, k, []) := by
  unfold cmdF
  rw [hw]
  show (if (numsF t T k (manyN k) 0 (ltD t T r)).1 = true then _ else _) = _
  rw [if_neg (by rw [w]; decide)]
theorem cmdF_ok {r k : Nat} (hw : wf t T r (ltD t T r) = some k) (w : (numsF t T k (manyN k) 0 (ltD t T r)).1 = true) (c : 0 < skD t T (numsF t T k (manyN k) 0 (ltD t T r)).2.1 ∧ t (T - skD t T (numsF t T k (manyN k) 0 (ltD t T r)).2.1) = 59) : cmdF t T r = (true, skD t T (numsF t T k (manyN k) 0 (ltD t T r)).2.1 - 1, k, (numsF t T k (manyN k) 0 (ltD t T r)).2.2) := by
  unfold cmdF
  rw [hw]
  show (if (numsF t T k (manyN k) 0 (ltD t T r)).1 = true then _ else _) = _
  rw [if_pos w, if_pos c]
theorem cmdF_end {r k : Nat} (hw : wf t T r (ltD t T r) = some k) (w : (numsF t T k (manyN k) 0 (ltD t T r)).1 = true) (c : ¬ (0 < skD t T (numsF t T k (manyN k) 0 (ltD t T r)).2.1 ∧ t (T - skD t T (numsF t T k (manyN k) 0 (ltD t T r)).2.1) = 59)) : cmdF t T r = (false, skD t T (numsF t T k (manyN k) 0 (ltD t T r)).2.1, k, []) := by
  unfold cmdF
  rw [hw]
  show (if (numsF t T k (manyN k) 0 (ltD t T r)).1 = true then _ else _) = _
  rw [if_pos w, if_neg c]
theorem x_readCommand (hT : T ≤ 120) {r : Nat} (h : SX t T σ r) : Ho (f_X3_readCommand σ) (fun q => Fr [3, 5] σ q.2 ∧ SX t T q.2 (cmdF t T r).2.1 ∧ q.1 = bI (cmdF t T r).1 ∧ ((cmdF t T r).1 = true → q.2.1 3 4 = nI (cmdF t T r).2.2.1 ∧ ∀ i, i < manyN (cmdF t T r).2.2.1 → q.2.1 5 i = (cmdF t T r).2.2.2.getD i 0)) := by
  unfold f_X3_readCommand
  refine ho_bind (x_readWord hT h) (fun q hq => ?_)
  obtain ⟨F1, hq⟩ := hq
  cases hw : wf t T r (ltD t T r) with
  | none =>
    rw [hw] at hq
    rw [hq.1, cmdF_none hw]
    exact ho_t rfl (ho_some ⟨F1.mono (by decide), hq.2, rfl, fun w => absurd (show false = true from w) (by decide)⟩)
  | some k =>
    rw [hw] at hq
    obtain ⟨q1, hX, q4⟩ := hq
    have k8 := (wf_some hw).1
    rw [q1, q4]
    refine ho_f (by decide) (ho_be (x_numbersOf k8) ?_)
    refine x_nums (σ := q.2) (t := t) (T := T) hT k8 (manyN k) 0 1000 (ltD t T r) q.2 (by omega) (by have := manyN_le k; omega) Fr.refl q4 hX (fun w υ a1 a2 a3 a4 a5 => ?_) (fun w υ a1 a2 => ?_)
    · refine ho_bind (x_skip hT a3) (fun ω hω => ?_)
      obtain ⟨F3, k3, hX3⟩ := hω
      refine ho_be (x_sees hT hX3 59) ?_
      try dsimp only
      have F4 : Fr [3, 5] σ ω := ((F1.mono (by decide)).trans a1).trans (F3.mono (by decide))
      by_cases c : 0 < skD t T (numsF t T k (manyN k) 0 (ltD t T r)).2.1 ∧ t (T - skD t T (numsF t T k (manyN k) 0 (ltD t T r)).2.1) = 59
      · rw [cmdF_ok hw w c, decide_eq_true c]
        refine ho_f (by decide) (ho_nm (ho_some ⟨F4.sI (by decide), hX3.adv c.1, rfl, fun _ => ⟨?_, fun i hi => ?_⟩⟩))
        · show (sI ω 3 3 _).1 3 4 = nI k
          rw [sI_off _ _ _ _ (by decide), k3, a2]
        · show (sI ω 3 3 _).1 5 i = _
          rw [sI_ne _ _ _ (by decide), F3.i (i := 5) (by decide), a5 i (by omega) hi]
          rfl
      · rw [cmdF_end hw w c, decide_eq_false c]
        exact ho_t rfl (ho_some ⟨F4, hX3, rfl, fun w => absurd (show false = true from w) (by decide)⟩)
    · rw [cmdF_bad hw w]
      exact ⟨(F1.mono (by decide)).trans a1, a2, rfl, fun w => absurd (show false = true from w) (by decide)⟩
theorem x_findFault (hT : T ≤ 120) (h1 : σ.1 3 2 = nI T) (h2 : ∀ k, k < T → σ.1 4 k = t k) : Ho (f_X3_findFault σ) (fun q => Fr [3, 5] σ q.2 ∧ q.2.1 3 2 = nI T ∧ (∀ k, k < T → q.2.1 4 k = t k) ∧ (match faF t T with | none => q.1 = -1 | some s => q.1 = nI (T - s) ∧ s ≤ T)) := by
  have loop : ∀ (n s fuel : Nat) (τ : St), s ≤ n → n ≤ 120 → n < fuel → Fr [3, 5] σ τ → SX t T τ s → Ho (f_X3_findFault_18 (fun (σ13 : St) => some ((-1 : Int32), σ13)) fuel (nI (120 - n)) τ) (fun q => Fr [3, 5] σ q.2 ∧ q.2.1 3 2 = nI T ∧ (∀ k, k < T → q.2.1 4 k = t k) ∧ (match ffF t T n s with | none => q.1 = -1 | some s => q.1 = nI (T - s) ∧ s ≤ T)) := by
    intro n
    induction n with
    | zero =>
      intro s fuel τ hs hn hf hF hX
      obtain ⟨fuel, rfl⟩ : ∃ f, fuel = f + 1 := ⟨fuel - 1, by omega⟩
      rw [f_X3_findFault_18]
      exact ho_t (nI_ge' (a := 120) (by omega) (by omega)) (ho_some ⟨hF, hX.1, hX.2.1, rfl⟩)
    | succ n ih =>
      intro s fuel τ hs hn hf hF hX
      obtain ⟨fuel, rfl⟩ : ∃ f, fuel = f + 1 := ⟨fuel - 1, by omega⟩
      rw [f_X3_findFault_18]
      refine ho_f (nI_nge' (a := 120) (by omega) (by omega)) (ho_bind (x_hasMore hT hX) (fun q hq => ?_))
      obtain ⟨F1, -, hX1, q1⟩ := hq
      rw [q1, ffF]
      have sl := skD_le t T s
      by_cases c : skD t T s = 0
      · rw [if_pos c, decide_eq_false (by omega)]
        exact ho_t rfl (ho_some ⟨hF.trans (F1.mono (by decide)), hX1.1, hX1.2.1, rfl⟩)
      · rw [if_neg c, decide_eq_true (show 0 < skD t T s by omega)]
        refine ho_f (by decide) (ho_bind (x_readCommand hT hX1) (fun p hp => ?_))
        obtain ⟨F2, hX2, p1, -⟩ := hp
        rw [p1]
        by_cases c2 : (cmdF t T (skD t T s)).1 = true
        · have lt := (cmdF_lt c2).1
          rw [if_pos c2, c2, nI_1 (120 - (n + 1)), show 120 - (n + 1) + 1 = 120 - n by omega]
          exact ho_f (by decide) (ih _ fuel p.2 (by omega) (by omega) (by omega) ((hF.trans (F1.mono (by decide))).trans F2) hX2)
        · rw [if_neg c2, bf_of c2]
          exact ho_t rfl (ho_some ⟨(hF.trans (F1.mono (by decide))).trans F2, hX2.1, hX2.2.1, hX2.2.2.1, hX2.2.2.2⟩)
  unfold f_X3_findFault faF
  have hX0 : SX t T (sI σ 3 3 (0 : Int32)) T := ⟨by rw [sI_off _ _ _ _ (by decide)]; exact h1, fun k hk => by rw [sI_ne _ _ _ (by decide)]; exact h2 k hk, by rw [sI_at, Nat.sub_self]; rfl, Nat.le_refl T⟩
  refine ho_be (show f_X3_rewind σ = some (sI σ 3 3 (0 : Int32)) from rfl) (ho_bind (x_hasMore hT hX0) (fun q hq => ?_))
  obtain ⟨F1, -, hX1, q1⟩ := hq
  have F2 : Fr [3, 5] σ q.2 := (Fr.refl.sI (by decide)).trans (F1.mono (by decide))
  rw [q1]
  by_cases c : skD t T T = 0
  · rw [if_pos c, decide_eq_false (by omega)]
    exact ho_t rfl (ho_some ⟨F2, hX1.1, hX1.2.1, hX1.1, Nat.zero_le _⟩)
  · rw [if_neg c, decide_eq_true (show 0 < skD t T T by omega)]
    refine ho_f (by decide) ?_
    have := loop 120 (skD t T T) 1000 q.2 (by have := skD_le t T T; omega) (Nat.le_refl _) (by omega) F2 hX1
    rw [ffF_sk] at this
    exact this
end Tn
