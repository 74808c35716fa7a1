/-! the reference reads -/
section Tm
variable {t : Nat → Int32} {T : Nat} {σ : St}
def SY (t : Nat → Int32) (T : Nat) (τ : St) (r : Nat) : Prop := τ.1 87 6 = nI T ∧ (∀ k, k < T → τ.1 92 k = t k) ∧ τ.1 87 7 = nI (T - r) ∧ r ≤ T ∧ ∀ k, k < 64 → τ.1 104 k = wdT k
def KY (σ τ : St) : Prop := Fr [87, 105] σ τ ∧ ∀ k, k ≠ 7 → τ.1 87 k = σ.1 87 k
theorem KY.refl : KY σ σ := ⟨Fr.refl, fun _ _ => rfl⟩
theorem KY.trans {τ υ : St} (h : KY σ τ) (g : KY τ υ) : KY σ υ := ⟨h.1.trans g.1, fun k hk => by rw [g.2 k hk, h.2 k hk]⟩
theorem KY.at {τ : St} (h : KY σ τ) (v : Int32) : KY σ (sI τ 87 7 v) := ⟨h.1.sI (by decide), fun k hk => by rw [sI_off _ _ _ _ hk]; exact h.2 k hk⟩
theorem KY.num {τ : St} (h : KY σ τ) (i : Nat) (v : Int32) : KY σ (sI τ 105 i v) := ⟨h.1.sI (by decide), fun k hk => by rw [sI_ne _ _ _ (by decide)]; exact h.2 k hk⟩
theorem SY.put {r r' : Nat} (h : SY t T σ r) (hr : r' ≤ T) : SY t T (sI σ 87 7 (nI (T - r'))) r' := by
  obtain ⟨h1, h2, h3, h4, h5⟩ := h
  exact ⟨by rw [sI_off _ _ _ _ (by decide)]; exact h1, fun k hk => by rw [sI_ne _ _ _ (by decide)]; exact h2 k hk, sI_at _ _ _ _, hr, fun k hk => by rw [sI_ne _ _ _ (by decide)]; exact h5 k hk⟩
theorem SY.num {r : Nat} (h : SY t T σ r) (i : Nat) (v : Int32) : SY t T (sI σ 105 i v) r := by
  unfold SY
  rw [sI_ne _ _ _ (show 87 ≠ 105 by decide), sI_ne _ _ _ (show 92 ≠ 105 by decide), sI_ne _ _ _ (show 104 ≠ 105 by decide)]
  exact h
theorem SY.adv {r : Nat} (h : SY t T σ r) (hr : 0 < r) : SY t T (sI σ 87 7 (σ.1 87 7 + (1 : Int32))) (r - 1) := by
  have rT := h.2.2.2.1
  rw [h.2.2.1, show nI (T - r) + (1 : Int32) = nI (T - r + 1) from nI_1 _, show T - r + 1 = T - (r - 1) by omega]
  exact h.put (by omega)
/-- what stands at r -/
def hrV (t : Nat → Int32) (T r : Nat) : Int32 := if 0 < r then t (T - r) else -1
theorem y_here (hT : T ≤ 120) {r : Nat} (h : SY t T σ r) : Ho (f_X6_here σ) (fun q => KY σ q.2 ∧ q.2.1 105 = σ.1 105 ∧ SY t T q.2 (skD t T r) ∧ q.1 = hrV t T (skD t T r)) := by
  have fin : ∀ (τ : St) (s : Nat), KY σ τ → τ.1 105 = σ.1 105 → SY t T τ s → s = skD t T r → Ho (if (τ.1 87 6) ≤ (τ.1 87 7) then some ((-1 : Int32), τ) else chk (ib (τ.1 87 7) 120) (some ((τ.1 92 (τ.1 87 7).toNatClampNeg), τ))) (fun q => KY σ q.2 ∧ q.2.1 105 = σ.1 105 ∧ SY t T q.2 (skD t T r) ∧ q.1 = hrV t T (skD t T r)) := by
    intro τ s hK h5 hX e
    have rT := hX.2.2.2.1
    rw [hX.1, hX.2.2.1, ← e]
    unfold hrV
    by_cases z : 0 < s
    · rw [nI31 (by omega), hX.2.1 _ (by omega), if_pos z]
      exact ho_f (nI_nge' (by omega) (by omega)) (ho_chk (ib_nI (by omega) (by omega)) (ho_some ⟨hK, h5, hX, rfl⟩))
    · rw [if_neg z]
      exact ho_t (nI_ge' (by omega) (by omega)) (ho_some ⟨hK, h5, hX, rfl⟩)
  have loop : ∀ (s fuel : Nat) (τ : St), s < fuel → KY σ τ → τ.1 105 = σ.1 105 → SY t T τ s → skD t T s = skD t T r → Ho (f_X6_here_0 (fun (σ8 : St) => if (σ8.1 87 6) ≤ (σ8.1 87 7) then some ((-1 : Int32), σ8) else chk (ib (σ8.1 87 7) 120) (some ((σ8.1 92 (σ8.1 87 7).toNatClampNeg), σ8))) fuel τ) (fun q => KY σ q.2 ∧ q.2.1 105 = σ.1 105 ∧ SY t T q.2 (skD t T r) ∧ q.1 = hrV t T (skD t T r)) := by
    intro s
    induction s with
    | zero =>
      intro fuel τ hf hK h5 hX e
      obtain ⟨fuel, rfl⟩ : ∃ f, fuel = f + 1 := ⟨fuel - 1, by omega⟩
      rw [f_X6_here_0]
      refine ho_t ?_ (fin τ 0 hK h5 hX e)
      rw [hX.1, hX.2.2.1]
      exact nI_ge' (by omega) (by omega)
    | succ s ih =>
      intro fuel τ hf hK h5 hX e
      obtain ⟨fuel, rfl⟩ : ∃ f, fuel = f + 1 := ⟨fuel - 1, by omega⟩
      have rT := hX.2.2.2.1
      rw [f_X6_here_0]
      refine ho_f ?_ ?_
      · rw [hX.1, hX.2.2.1]
        exact nI_nge' (by omega) (by omega)
      · have e7 := hX.2.2.1
        refine ho_chk (by rw [e7]; exact ib_nI (by omega) (by omega)) (ho_if (fun c => ho_nm ?_) (fun c => ?_))
        · rw [e7, nI31 (by omega), hX.2.1 _ (by omega)] at c
          have hX' := hX.adv (by omega)
          exact ih fuel _ (by omega) (hK.at _) (by rw [sI_ne _ _ _ (by decide)]; exact h5) hX' (by rw [← e, skD, if_pos c])
        · rw [e7, nI31 (by omega), hX.2.1 _ (by omega)] at c
          exact fin τ (s + 1) hK h5 hX (by rw [← e, skD, if_neg c])
  unfold f_X6_here
  exact loop r 1000 σ (by have := h.2.2.2.1; omega) KY.refl rfl h rfl
theorem y_isLetter (hT : T ≤ 120) {r s : Nat} (h : SY t T σ r) (hs : s ≤ T) : f_X6_isLetter (nI (T - s)) σ = some (bI (decide (0 < s) && isA (t (T - s))), σ) := by
  unfold f_X6_isLetter
  rw [h.1]
  by_cases z : 0 < s
  · rw [if_neg (nI_nge' (by omega) (by omega)), nI31 (by omega), h.2.1 _ (by omega), decide_eq_true z]
    unfold chk
    rw [if_pos (ib_nI (by omega) (by omega)), y_in]
    show (if bI (isA (t (T - s))) = 0 then _ else _) = _
    cases isA (t (T - s)) <;> rfl
  · rw [if_pos (nI_ge' (by omega) (by omega)), decide_eq_false z]; rfl
theorem y_isFigure (hT : T ≤ 120) {r s : Nat} (h : SY t T σ r) (hs : s ≤ T) : f_X6_isFigure (nI (T - s)) σ = some (bI (sD t T s), σ) := by
  unfold f_X6_isFigure sD
  rw [h.1]
  by_cases z : 0 < s
  · rw [if_neg (nI_nge' (by omega) (by omega)), nI31 (by omega), h.2.1 _ (by omega), decide_eq_true z]
    unfold chk
    rw [if_pos (ib_nI (by omega) (by omega)), y_in]
    show (if bI (isD (t (T - s))) = 0 then _ else _) = _
    cases isD (t (T - s)) <;> rfl
  · rw [if_pos (nI_ge' (by omega) (by omega)), decide_eq_false z]; rfl
/-- the reference's way to compare a word -/
def zB (t : Nat → Int32) (T w r e : Nat) : Nat → Bool
  | 0 => decide (e < r) && decide (r - e < 9)
  | i + 1 => zB t T w r e i && decide (wdT (8 * w + i) = (if i < r - e then t (T - r + i) else 0))
theorem zB_off {w r e : Nat} {i : Nat} (h : zB t T w r e i = false) : ∀ k, zB t T w r e (i + k) = false
  | 0 => h
  | k + 1 => by rw [← Nat.add_assoc, zB, zB_off h k, Bool.false_and]
theorem zB_get {w r e : Nat} : ∀ {n : Nat}, zB t T w r e n = true → e < r ∧ r - e < 9 ∧ ∀ i, i < n → wdT (8 * w + i) = (if i < r - e then t (T - r + i) else 0)
  | 0, h => by
    rw [zB, Bool.and_eq_true] at h
    exact ⟨of_decide_eq_true h.1, of_decide_eq_true h.2, fun i hi => absurd hi (Nat.not_lt_zero i)⟩
  | n + 1, h => by
    rw [zB, Bool.and_eq_true] at h
    have ih := zB_get h.1
    refine ⟨ih.1, ih.2.1, fun i hi => ?_⟩
    by_cases c : i = n
    · subst c; exact of_decide_eq_true h.2
    · exact ih.2.2 i (by omega)
theorem zB_mk {w r e : Nat} (h1 : e < r) (h2 : r - e < 9) : ∀ {n : Nat}, (∀ i, i < n → wdT (8 * w + i) = (if i < r - e then t (T - r + i) else 0)) → zB t T w r e n = true
  | 0, _ => by rw [zB, decide_eq_true h1, decide_eq_true h2]; rfl
  | n + 1, h => by rw [zB, zB_mk h1 h2 (fun i hi => h i (by omega)), decide_eq_true (h n (by omega))]; rfl
theorem mB_get {a w : Nat} : ∀ {n : Nat}, mB t a w n = true → ∀ i, i < n → t (a + i) = (bytS.getD w []).getD i 0
  | 0, _, i, hi => absurd hi (Nat.not_lt_zero i)
  | n + 1, h, i, hi => by
    rw [mB, Bool.and_eq_true] at h
    by_cases c : i = n
    · subst c; exact of_decide_eq_true h.2
    · exact mB_get h.1 i (by omega)
theorem mB_mk {a w : Nat} : ∀ {n : Nat}, (∀ i, i < n → t (a + i) = (bytS.getD w []).getD i 0) → mB t a w n = true
  | 0, _ => rfl
  | n + 1, h => by rw [mB, mB_mk (fun i hi => h i (by omega)), decide_eq_true (h n (by omega))]; rfl
theorem wd_b : ∀ w, w < 8 → ∀ i, i < 8 → wdT (8 * w + i) = (if i < lenS.getD w 0 then (bytS.getD w []).getD i 0 else 0) := by decide +kernel
theorem by_0 : ∀ w, w < 8 → ∀ i, i < lenS.getD w 0 → ¬ (bytS.getD w []).getD i 0 = 0 := by decide +kernel
theorem isA_0 {c : Int32} (h : isA c = true) : ¬ c = 0 := fun e => by
  subst e
  exact absurd h (by decide)
theorem zB_eq {w r e : Nat} (hw : w < 8) (he : e ≤ r) (hl : ∀ k, k < r - e → isA (t (T - r + k)) = true) : zB t T w r e 8 = mW t T w r e := by
  have l8 := lenS_b w hw
  by_cases c : mW t T w r e = true
  · rw [c]
    unfold mW at c
    rw [Bool.and_eq_true] at c
    have en : r - e = lenS.getD w 0 := of_decide_eq_true c.1
    have g := mB_get c.2
    refine zB_mk (by omega) (by omega) (fun i hi => ?_)
    rw [wd_b w hw i hi]
    by_cases z : i < lenS.getD w 0
    · rw [if_pos z, if_pos (by omega), g i z]
    · rw [if_neg z, if_neg (by omega)]
  · rw [bf_of c]
    by_cases z : zB t T w r e 8 = true
    · exfalso
      obtain ⟨z1, z2, z3⟩ := zB_get z
      have en : r - e = lenS.getD w 0 := by
        rcases Nat.lt_trichotomy (r - e) (lenS.getD w 0) with q | q | q
        · have a := z3 (r - e) (by omega)
          rw [wd_b w hw _ (by omega), if_pos q, if_neg (Nat.lt_irrefl _)] at a
          exact absurd a (by_0 w hw _ q)
        · exact q
        · have a := z3 (lenS.getD w 0) (by omega)
          rw [wd_b w hw _ (by omega), if_neg (Nat.lt_irrefl _), if_pos q] at a
          exact absurd a.symm (isA_0 (hl _ q))
      refine c ?_
      unfold mW
      rw [decide_eq_true en, Bool.true_and]
      refine mB_mk (fun i hi => ?_)
      have a := z3 i (by omega)
      rw [wd_b w hw i (by omega), if_pos hi, if_pos (by omega)] at a
      exact a.symm
    · exact bf_of z
def lwF (t : Nat → Int32) (T r e : Nat) : Nat → Option Nat
  | 0 => none
  | w + 1 => if mW t T w r e = true then some w else lwF t T r e w
theorem byt_ne : ∀ w, w < 8 → ∀ v, v < 8 → w ≠ v → lenS.getD w 0 = lenS.getD v 0 → ∃ i, i < lenS.getD w 0 ∧ (bytS.getD w []).getD i 0 ≠ (bytS.getD v []).getD i 0 := by
  have q : ∀ w, w < 8 → ∀ v, v < 8 → w ≠ v → lenS.getD w 0 = lenS.getD v 0 → (bytS.getD w []).getD 0 0 ≠ (bytS.getD v []).getD 0 0 := by decide +kernel
  intro w hw v hv hne hl
  exact ⟨0, by have := lenS_b w hw; omega, q w hw v hv hne hl⟩
theorem mW_one {w v r e : Nat} (hw : w < 8) (hv : v < 8) (h1 : mW t T w r e = true) (h2 : mW t T v r e = true) : w = v := by
  by_cases c : w = v
  · exact c
  · unfold mW at h1 h2
    rw [Bool.and_eq_true] at h1 h2
    have e1 := of_decide_eq_true h1.1
    have e2 := of_decide_eq_true h2.1
    obtain ⟨i, hi, hne⟩ := byt_ne w hw v hv c (by omega)
    have a := mB_get h1.2 i hi
    have b := mB_get h2.2 i (by omega)
    exact absurd (a.symm.trans b) hne
theorem lwF_some {r e w : Nat} : ∀ {n : Nat}, lwF t T r e n = some w → w < n ∧ mW t T w r e = true
  | 0, h => by cases h
  | n + 1, h => by
    rw [lwF] at h
    split at h
    · have := Option.some.inj h
      subst this
      rename_i q
      exact ⟨by omega, q⟩
    · have := lwF_some h
      exact ⟨by omega, this.2⟩
theorem lwF_none {r e : Nat} : ∀ {n : Nat}, lwF t T r e n = none → ∀ w, w < n → mW t T w r e = false
  | 0, _, w, hw => absurd hw (Nat.not_lt_zero w)
  | n + 1, h, w, hw => by
    rw [lwF] at h
    split at h
    · cases h
    · rename_i q
      by_cases c : w = n
      · subst c; exact bf_of q
      · exact lwF_none h w (by omega)
theorem wfN_none {r e : Nat} : ∀ {n k : Nat}, wfN t T r e n k = none → ∀ w, k ≤ w → w < k + n → mW t T w r e = false
  | 0, k, _, w, h1, h2 => by omega
  | n + 1, k, h, w, h1, h2 => by
    rw [wfN] at h
    split at h
    · cases h
    · rename_i q
      by_cases c : w = k
      · subst c; exact bf_of q
      · exact wfN_none h w (by omega) (by omega)
theorem lwF_wf {r e : Nat} : lwF t T r e 8 = wf t T r e := by
  cases h : wf t T r e with
  | none =>
    cases g : lwF t T r e 8 with
    | none => rfl
    | some w =>
      have a := lwF_some g
      have b := wfN_none h w (by omega) (by omega)
      rw [a.2] at b; cases b
  | some w =>
    have a := wf_some h
    cases g : lwF t T r e 8 with
    | none =>
      have b := lwF_none g w a.1
      rw [a.2] at b; cases b
    | some v =>
      have b := lwF_some g
      rw [mW_one b.1 a.1 b.2 a.2]
theorem m8 (a : Nat) : (8 : Int32) * nI a = nI (8 * a) := pk_mul 8 a
theorem y_w63 (hT : T ≤ 120) {r e w : Nat} (h : SY t T σ r) (he : e ≤ r) (hw : w < 8) {x11 : Int32} {K : Int32 → St → Option (Int32 × St)} {Q : Int32 × St → Prop} (hK : Ho (K (bI (zB t T w r e 8)) σ) Q) : ∀ (d i fuel : Nat), i + d = 8 → d < fuel → Ho (f_X6_word_63 (nI (T - e)) x11 (nI w) K fuel (bI (zB t T w r e i)) (nI i) σ) Q := by
  have rT := h.2.2.2.1
  intro d
  induction d with
  | zero =>
    intro i fuel hd hf
    obtain ⟨fuel, rfl⟩ : ∃ f, fuel = f + 1 := ⟨fuel - 1, by omega⟩
    have ei : i = 8 := by omega
    subst ei
    rw [f_X6_word_63]
    exact ho_t (nI_ge' (a := 8) (by omega) (by omega)) hK
  | succ d ih =>
    intro i fuel hd hf
    obtain ⟨fuel, rfl⟩ : ∃ f, fuel = f + 1 := ⟨fuel - 1, by omega⟩
    rw [f_X6_word_63]
    refine ho_f (nI_nge' (a := 8) (by omega) (by omega)) ?_
    by_cases c : zB t T w r e i = true
    · obtain ⟨z1, z2, -⟩ := zB_get c
      rw [c, m8, nI_add, nI31 (k := 8 * w + i) (by omega), h.2.2.2.2 _ (by omega), h.2.2.1, nI_add, nI31 (k := T - r + i) (by omega), nI_1 i]
      refine ho_f (by decide) (ho_chk (ib_nI (by omega) (by omega)) ?_)
      have nx := ih (i + 1) fuel (by omega) (by omega)
      rw [zB, c, Bool.true_and] at nx
      refine ho_jnP (fun p : Int32 × St => p = ((if i < r - e then t (T - r + i) else 0), σ)) (fun p hp => ?_) (fun j hj => ?_)
      · subst hp
        try dsimp only
        refine ho_if (fun z => ?_) (fun z => ?_)
        · rw [decide_eq_true z] at nx; exact nx
        · rw [decide_eq_false z] at nx; exact nx
      · by_cases z : i < r - e
        · rw [if_pos z] at hj
          rw [h.2.1 _ (by omega)]
          exact ho_f (nI_nge' (by omega) (by omega)) (ho_chk (ib_nI (by omega) (by omega)) (hj _ rfl))
        · rw [if_neg z] at hj
          exact ho_t (nI_ge' (by omega) (by omega)) (hj _ rfl)
    · have c' := bf_of c
      have off := zB_off c' (8 - i)
      rw [show i + (8 - i) = 8 by omega] at off
      rw [off] at hK
      rw [c']
      exact ho_t rfl hK
theorem y_word (hT : T ≤ 120) {r : Nat} (h : SY t T σ r) : Ho (f_X6_word σ) (fun q => KY σ q.2 ∧ q.2.1 105 = σ.1 105 ∧ (match wf t T (skD t T r) (ltD t T (skD t T r)) with | none => q.1 = -1 ∧ SY t T q.2 (skD t T r) | some k => q.1 = nI k ∧ SY t T q.2 (ltD t T (skD t T r)))) := by
  unfold f_X6_word
  refine ho_bind (y_here hT h) (fun q hq => ?_)
  obtain ⟨K1, k1, hX, -⟩ := hq
  generalize q.2 = τ at K1 k1 hX
  generalize skD t T r = r1 at hX
  have rT := hX.2.2.2.1
  have ll := ltD_le t T r1
  have lets := ltD_let t T r1 rT
  generalize he : ltD t T r1 = e at ll lets
  rw [hX.2.2.1]
  refine ho_nm ?_
  -- the words, one after the other
  have loop2 : ∀ (d w fuel : Nat), w + d = 8 → d < fuel → Ho (f_X6_word_28 (nI (T - e)) (fun (x37 : Int32) (σ38 : St) => if x37 = (-1 : Int32) then nm (sI σ38 87 7 (σ38.1 87 7)) (fun σ41 : St => some (x37, σ41)) else nm (sI σ38 87 7 (nI (T - e))) (fun σ40 : St => some (x37, σ40))) fuel (wi (lwF t T r1 e w)) (nI w) τ) (fun q => KY σ q.2 ∧ q.2.1 105 = σ.1 105 ∧ (match wf t T r1 e with | none => q.1 = -1 ∧ SY t T q.2 r1 | some k => q.1 = nI k ∧ SY t T q.2 e)) := by
    intro d
    induction d with
    | zero =>
      intro w fuel hd hf
      obtain ⟨fuel, rfl⟩ : ∃ f, fuel = f + 1 := ⟨fuel - 1, by omega⟩
      have ew : w = 8 := by omega
      subst ew
      rw [f_X6_word_28, lwF_wf]
      refine ho_t (nI_ge' (a := 8) (by omega) (by omega)) ?_
      cases g : wf t T r1 e with
      | none =>
        refine ho_t rfl (ho_nm (ho_some ⟨K1.at _, by show (sI τ 87 7 _).1 105 = _; rw [sI_ne _ _ _ (by decide)]; exact k1, rfl, ?_⟩))
        rw [hX.2.2.1]
        exact hX.put rT
      | some k =>
        have k8 := (wf_some g).1
        refine ho_f (nI_nm (by omega)) (ho_nm (ho_some ⟨K1.at _, by show (sI τ 87 7 _).1 105 = _; rw [sI_ne _ _ _ (by decide)]; exact k1, rfl, hX.put (by omega)⟩))
    | succ d ih =>
      intro w fuel hd hf
      obtain ⟨fuel, rfl⟩ : ∃ f, fuel = f + 1 := ⟨fuel - 1, by omega⟩
      rw [f_X6_word_28, hX.2.2.1]
      refine ho_f (nI_nge' (a := 8) (by omega) (by omega)) ?_
      have es : nI (T - e) - nI (T - r1) = nI (r1 - e) := by
        rw [show T - e = (T - r1) + (r1 - e) by omega, ← nI_add]
        grind
      rw [es]
      refine ho_jnP (fun p : Int32 × St => p = (bI (zB t T w r1 e 0), τ)) (fun p hp => ?_) (fun j hj => ?_)
      · subst hp
        try dsimp only
        refine y_w63 hT hX ll (by omega) ?_ 8 0 1000 (by omega) (by omega)
        rw [zB_eq (by omega) ll lets, nI_1 w]
        have nx := ih (w + 1) fuel (by omega) (by omega)
        rw [lwF] at nx
        by_cases c : mW t T w r1 e = true
        · rw [if_pos c] at nx
          rw [c]
          exact ho_f (by decide) nx
        · rw [if_neg c] at nx
          rw [bf_of c]
          exact ho_t rfl nx
      · rw [zB] at hj
        by_cases c1 : e < r1
        · refine ho_f (nI_nge' (by omega) (by omega)) ?_
          by_cases c2 : r1 - e < 9
          · rw [decide_eq_true c1, decide_eq_true c2] at hj
            exact ho_f (nI_nge' (a := 9) (by omega) (by omega)) (hj _ rfl)
          · rw [decide_eq_true c1, decide_eq_false c2] at hj
            exact ho_t (nI_ge' (a := 9) (by omega) (by omega)) (hj _ rfl)
        · rw [decide_eq_false c1] at hj
          exact ho_t (nI_ge' (by omega) (by omega)) (hj _ rfl)
  have loop1 : ∀ (s fuel : Nat), s ≤ r1 → s < fuel → ltD t T s = e → Ho (f_X6_word_10 (fun (x9 : Int32) (σ10 : St) => f_X6_word_28 x9 (fun (x37 : Int32) (σ38 : St) => if x37 = (-1 : Int32) then nm (sI σ38 87 7 (σ38.1 87 7)) (fun σ41 : St => some (x37, σ41)) else nm (sI σ38 87 7 x9) (fun σ40 : St => some (x37, σ40))) 1000 (-1 : Int32) (0 : Int32) σ10) fuel (nI (T - s)) τ) (fun q => KY σ q.2 ∧ q.2.1 105 = σ.1 105 ∧ (match wf t T r1 e with | none => q.1 = -1 ∧ SY t T q.2 r1 | some k => q.1 = nI k ∧ SY t T q.2 e)) := by
    intro s
    induction s with
    | zero =>
      intro fuel hs hf hl
      obtain ⟨fuel, rfl⟩ : ∃ f, fuel = f + 1 := ⟨fuel - 1, by omega⟩
      rw [f_X6_word_10]
      refine ho_be (y_isLetter hT hX (s := 0) (by omega)) (ho_t rfl ?_)
      have e0 : e = 0 := hl.symm
      have q := loop2 8 0 1000 (by omega) (by omega)
      rw [e0] at q ⊢
      exact q
    | succ s ih =>
      intro fuel hs hf hl
      obtain ⟨fuel, rfl⟩ : ∃ f, fuel = f + 1 := ⟨fuel - 1, by omega⟩
      rw [f_X6_word_10]
      refine ho_be (y_isLetter hT hX (s := s + 1) (by omega)) ?_
      try dsimp only
      rw [decide_eq_true (Nat.succ_pos s), Bool.true_and, show nI (T - (s + 1)) + 1 = nI (T - (s + 1) + 1) from nI_1 _, show T - (s + 1) + 1 = T - s by omega]
      by_cases c : isA (t (T - (s + 1))) = true
      · rw [c]
        refine ho_f (by decide) (ih fuel (by omega) (by omega) ?_)
        rw [← hl, ltD, if_pos c]
      · rw [bf_of c]
        refine ho_t rfl ?_
        have e0 : e = s + 1 := by rw [← hl, ltD, if_neg c]
        have q := loop2 8 0 1000 (by omega) (by omega)
        rw [e0] at q ⊢
        exact q
  exact loop1 r1 1000 (Nat.le_refl _) (by omega) he
end Tm
