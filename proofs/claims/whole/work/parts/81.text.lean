/-! the text's commands, as numbers: t the bytes, T how many; r: how many bytes are left -/
section Tx
def isD (c : Int32) : Bool := inR c 48 57
def isA (c : Int32) : Bool := inR c 97 122
def skD (t : Nat → Int32) (T : Nat) : Nat → Nat
  | 0 => 0
  | r + 1 => if t (T - (r + 1)) = 32 then skD t T r else r + 1
theorem skD_le (t : Nat → Int32) (T : Nat) : ∀ r, skD t T r ≤ r
  | 0 => Nat.le_refl 0
  | r + 1 => by
    rw [skD]
    split
    · have := skD_le t T r; omega
    · omega
theorem skD_id (t : Nat → Int32) (T : Nat) : ∀ r, skD t T (skD t T r) = skD t T r
  | 0 => rfl
  | r + 1 => by
    by_cases c : t (T - (r + 1)) = 32
    · rw [show skD t T (r + 1) = skD t T r by rw [skD, if_pos c]]; exact skD_id t T r
    · have e : skD t T (r + 1) = r + 1 := by rw [skD, if_neg c]
      rw [e, e]
def ltD (t : Nat → Int32) (T : Nat) : Nat → Nat
  | 0 => 0
  | r + 1 => if isA (t (T - (r + 1))) = true then ltD t T r else r + 1
theorem ltD_le (t : Nat → Int32) (T : Nat) : ∀ r, ltD t T r ≤ r
  | 0 => Nat.le_refl 0
  | r + 1 => by
    rw [ltD]
    split
    · have := ltD_le t T r; omega
    · omega
theorem ltD_let (t : Nat → Int32) (T : Nat) : ∀ r, r ≤ T → ∀ k, k < r - ltD t T r → isA (t (T - r + k)) = true
  | 0, _, k, hk => by have := Nat.zero_sub (ltD t T 0); omega
  | r + 1, hr, k, hk => by
    by_cases c : isA (t (T - (r + 1))) = true
    · rw [ltD, if_pos c] at hk
      have := ltD_le t T r
      by_cases e : k = 0
      · subst e; exact c
      · have q := ltD_let t T r (by omega) (k - 1) (by omega)
        rw [show T - r + (k - 1) = T - (r + 1) + k by omega] at q
        exact q
    · rw [ltD, if_neg c] at hk
      omega
def mB (t : Nat → Int32) (a w : Nat) : Nat → Bool
  | 0 => true
  | i + 1 => mB t a w i && decide (t (a + i) = (bytS.getD w []).getD i 0)
/-- word w stands from r to e -/
def mW (t : Nat → Int32) (T w r e : Nat) : Bool := decide (r - e = lenS.getD w 0) && mB t (T - r) w (lenS.getD w 0)
/-- the first of the words k, k + 1 .. (n of them) -/
def wfN (t : Nat → Int32) (T r e : Nat) : Nat → Nat → Option Nat
  | 0, _ => none
  | n + 1, k => if mW t T k r e = true then some k else wfN t T r e n (k + 1)
def wf (t : Nat → Int32) (T r e : Nat) : Option Nat := wfN t T r e 8 0
def dgD (t : Nat → Int32) (T : Nat) : Nat → Nat → Int32 → Nat × Int32
  | 0, r, v => (r, v)
  | _ + 1, 0, v => (0, v)
  | c + 1, r + 1, v => if isD (t (T - (r + 1))) = true then dgD t T c r ((v * 10 + t (T - (r + 1))) - 48) else (r + 1, v)
theorem dgD_le (t : Nat → Int32) (T : Nat) : ∀ c r v, (dgD t T c r v).1 ≤ r
  | 0, r, v => Nat.le_refl r
  | c + 1, 0, v => Nat.le_refl 0
  | c + 1, r + 1, v => by
    rw [dgD]
    split
    · have := dgD_le t T c r ((v * 10 + t (T - (r + 1))) - 48); omega
    · exact Nat.le_refl _
/-- a digit stands there -/
def sD (t : Nat → Int32) (T r : Nat) : Bool := decide (0 < r) && isD (t (T - r))
def mns (t : Nat → Int32) (T : Nat) (neg : Bool) (r : Nat) : Bool := neg && (decide (0 < r) && decide (t (T - r) = 45))
def numF (t : Nat → Int32) (T : Nat) (neg : Bool) (r : Nat) : Bool × Nat × Int32 :=
  let m := mns t T neg (skD t T r)
  let r2 := if m = true then skD t T r - 1 else skD t T r
  let d := dgD t T 3 r2 0
  (sD t T r2 && !(sD t T d.1), d.1, if m = true then -d.2 else d.2)
theorem numF_le (t : Nat → Int32) (T : Nat) (neg : Bool) (r : Nat) : (numF t T neg r).2.1 ≤ r := by
  unfold numF
  dsimp only
  have a := skD_le t T r
  refine Nat.le_trans (dgD_le t T 3 _ 0) ?_
  split <;> omega
def manyN (k : Nat) : Nat := if k = 1 then 4 else if k = 0 ∨ k = 4 ∨ k = 5 then 2 else 1
def numsF (t : Nat → Int32) (T k : Nat) : Nat → Nat → Nat → Bool × Nat × List Int32
  | 0, _, r => (true, r, [])
  | n + 1, i, r => if (numF t T (decide (k = 0) && decide (i = 1)) r).1 = true then ((numsF t T k n (i + 1) (numF t T (decide (k = 0) && decide (i = 1)) r).2.1).1, (numsF t T k n (i + 1) (numF t T (decide (k = 0) && decide (i = 1)) r).2.1).2.1, (numF t T (decide (k = 0) && decide (i = 1)) r).2.2 :: (numsF t T k n (i + 1) (numF t T (decide (k = 0) && decide (i = 1)) r).2.1).2.2) else (false, (numF t T (decide (k = 0) && decide (i = 1)) r).2.1, [])
theorem numsF_le (t : Nat → Int32) (T k : Nat) : ∀ n i r, (numsF t T k n i r).2.1 ≤ r
  | 0, i, r => Nat.le_refl r
  | n + 1, i, r => by
    have a := numF_le t T (decide (k = 0) && decide (i = 1)) r
    rw [numsF]
    split
    · exact Nat.le_trans (numsF_le t T k n (i + 1) _) a
    · exact a
/-- a command: is it right; what is left; its kind; its numbers -/
def cmdF (t : Nat → Int32) (T r : Nat) : Bool × Nat × Nat × List Int32 :=
  match wf t T r (ltD t T r) with
  | none => (false, r, 0, [])
  | some k => if (numsF t T k (manyN k) 0 (ltD t T r)).1 = true then (if (0 < skD t T (numsF t T k (manyN k) 0 (ltD t T r)).2.1 ∧ t (T - skD t T (numsF t T k (manyN k) 0 (ltD t T r)).2.1) = 59) then (true, skD t T (numsF t T k (manyN k) 0 (ltD t T r)).2.1 - 1, k, (numsF t T k (manyN k) 0 (ltD t T r)).2.2) else (false, skD t T (numsF t T k (manyN k) 0 (ltD t T r)).2.1, k, [])) else (false, (numsF t T k (manyN k) 0 (ltD t T r)).2.1, k, [])
theorem lenS_b : ∀ w, w < 8 → 3 ≤ lenS.getD w 0 ∧ lenS.getD w 0 ≤ 8 := by decide
theorem wfN_some {t : Nat → Int32} {T r e : Nat} : ∀ {n k w : Nat}, wfN t T r e n k = some w → k ≤ w ∧ w < k + n ∧ mW t T w r e = true
  | 0, k, w, h => by simp [wfN] at h
  | n + 1, k, w, h => by
    rw [wfN] at h
    split at h
    · have := Option.some.inj h
      subst this
      rename_i q
      exact ⟨Nat.le_refl _, by omega, q⟩
    · have := wfN_some h
      exact ⟨by omega, by omega, this.2.2⟩
theorem wf_some {t : Nat → Int32} {T r e w : Nat} (h : wf t T r e = some w) : w < 8 ∧ mW t T w r e = true := by
  have := wfN_some h
  exact ⟨by omega, this.2.2⟩
theorem cmdF_lt {t : Nat → Int32} {T r : Nat} (h : (cmdF t T r).1 = true) : (cmdF t T r).2.1 < r ∧ (cmdF t T r).2.2.1 < 8 := by
  unfold cmdF at h ⊢
  split at h
  · cases h
  · rename_i k hk
    have w := wf_some hk
    have l3 := lenS_b k w.1
    have e : r - ltD t T r = lenS.getD k 0 := by
      have := w.2
      unfold mW at this
      rw [Bool.and_eq_true] at this
      exact of_decide_eq_true this.1
    have nl := numsF_le t T k (manyN k) 0 (ltD t T r)
    have sl := skD_le t T (numsF t T k (manyN k) 0 (ltD t T r)).2.1
    have ll := ltD_le t T r
    split at h
    · rename_i c1
      split at h
      · rename_i c2
        rw [if_pos c1, if_pos c2]
        exact ⟨by show skD t T _ - 1 < r; omega, w.1⟩
      · cases h
    · cases h
theorem cmdF_le (t : Nat → Int32) (T r : Nat) : (cmdF t T r).2.1 ≤ r := by
  unfold cmdF
  split
  · exact Nat.le_refl _
  · rename_i k hk
    have nl := numsF_le t T k (manyN k) 0 (ltD t T r)
    have sl := skD_le t T (numsF t T k (manyN k) 0 (ltD t T r)).2.1
    have ll := ltD_le t T r
    split
    · split
      · show skD t T _ - 1 ≤ r; omega
      · show skD t T _ ≤ r; omega
    · show (numsF t T k (manyN k) 0 (ltD t T r)).2.1 ≤ r; omega
/-- the first fault, within n commands -/
def ffF (t : Nat → Int32) (T : Nat) : Nat → Nat → Option Nat
  | 0, _ => none
  | n + 1, r => if skD t T r = 0 then none else if (cmdF t T (skD t T r)).1 = true then ffF t T n (cmdF t T (skD t T r)).2.1 else some (cmdF t T (skD t T r)).2.1
def faF (t : Nat → Int32) (T : Nat) : Option Nat := if skD t T T = 0 then some 0 else ffF t T 120 T
theorem ffF_sk (t : Nat → Int32) (T n r : Nat) : ffF t T n (skD t T r) = ffF t T n r := by
  cases n with
  | zero => rfl
  | succ n => rw [ffF, ffF, skD_id]
end Tx
/-! the class reads -/
section Tc
variable {t : Nat → Int32} {T : Nat} {σ : St}
/-- the class's text, r bytes left -/
def SX (t : Nat → Int32) (T : Nat) (τ : St) (r : Nat) : Prop := τ.1 3 2 = nI T ∧ (∀ k, k < T → τ.1 4 k = t k) ∧ τ.1 3 3 = nI (T - r) ∧ r ≤ T
theorem SX.i {τ : St} {r : Nat} (h : SX t T σ r) (hF : Fr [5] σ τ) : SX t T τ r := by
  unfold SX
  rw [hF.i (i := 3) (by decide), hF.i (i := 4) (by decide)]
  exact h
theorem SX.put {r r' : Nat} (h : SX t T σ r) (hr : r' ≤ T) : SX t T (sI σ 3 3 (nI (T - r'))) r' := by
  obtain ⟨h1, h2, h3, h4⟩ := h
  refine ⟨by rw [sI_off _ _ _ _ (by decide)]; exact h1, fun k hk => by rw [sI_ne _ _ _ (by decide)]; exact h2 k hk, sI_at _ _ _ _, hr⟩
theorem SX.kind {r : Nat} (h : SX t T σ r) (v : Int32) : SX t T (sI σ 3 4 v) r := by
  obtain ⟨h1, h2, h3, h4⟩ := h
  refine ⟨by rw [sI_off _ _ _ _ (by decide)]; exact h1, fun k hk => by rw [sI_ne _ _ _ (by decide)]; exact h2 k hk, by rw [sI_off _ _ _ _ (by decide)]; exact h3, h4⟩
theorem x_skip (hT : T ≤ 120) {r : Nat} (h : SX t T σ r) : Ho (f_X3_skipBlanks σ) (fun τ => Fr [3] σ τ ∧ τ.1 3 4 = σ.1 3 4 ∧ SX t T τ (skD t T r)) := by
  have loop : ∀ (r fuel : Nat) (τ : St), r < fuel → Fr [3] σ τ → τ.1 3 4 = σ.1 3 4 → SX t T τ r → Ho (f_X3_skipBlanks_0 (fun (σ8 : St) => some σ8) fuel τ) (fun υ => Fr [3] σ υ ∧ υ.1 3 4 = σ.1 3 4 ∧ SX t T υ (skD t T r)) := by
    intro r
    induction r with
    | zero =>
      intro fuel τ hf hF h4 hX
      obtain ⟨fuel, rfl⟩ : ∃ f, fuel = f + 1 := ⟨fuel - 1, by omega⟩
      rw [f_X3_skipBlanks_0, hX.1, hX.2.2.1]
      exact ho_t (nI_ge' (by omega) (by omega)) (ho_some ⟨hF, h4, hX⟩)
    | succ r ih =>
      intro fuel τ hf hF h4 hX
      obtain ⟨fuel, rfl⟩ : ∃ f, fuel = f + 1 := ⟨fuel - 1, by omega⟩
      have rT := hX.2.2.2
      rw [f_X3_skipBlanks_0, hX.1, hX.2.2.1, nI31 (by omega), hX.2.1 _ (by omega), show nI (T - (r + 1)) + (1 : Int32) = nI (T - (r + 1) + 1) from nI_1 _, show T - (r + 1) + 1 = T - r by omega]
      refine ho_f (nI_nge' (by omega) (by omega)) (ho_chk (ib_nI (by omega) (by omega)) (ho_if (fun c => ho_nm ?_) (fun c => ho_some ⟨hF, h4, ?_⟩)))
      · have := ih fuel _ (by omega) (hF.sI (by decide)) (by rw [sI_off _ _ _ _ (by decide)]; exact h4) (hX.put (r' := r) (by omega))
        rw [skD, if_pos c]
        exact this
      · rw [skD, if_neg c]; exact hX
  unfold f_X3_skipBlanks
  exact loop r 1000 σ (by have := h.2.2.2; omega) Fr.refl rfl h
theorem x_hasMore (hT : T ≤ 120) {r : Nat} (h : SX t T σ r) : Ho (f_X3_hasMore σ) (fun q => Fr [3] σ q.2 ∧ q.2.1 3 4 = σ.1 3 4 ∧ SX t T q.2 (skD t T r) ∧ q.1 = bI (decide (0 < skD t T r))) := by
  unfold f_X3_hasMore
  refine ho_bind (x_skip hT h) (fun τ hτ => ?_)
  obtain ⟨F, h4, hX⟩ := hτ
  rw [hX.1, hX.2.2.1]
  have rT := hX.2.2.2
  refine ho_if (fun c => ho_some ⟨F, h4, hX, ?_⟩) (fun c => ho_some ⟨F, h4, hX, ?_⟩)
  · by_cases z : 0 < skD t T r
    · exact absurd c (nI_nge' (by omega) (by omega))
    · rw [decide_eq_false z]; rfl
  · by_cases z : 0 < skD t T r
    · rw [decide_eq_true z]; rfl
    · exact absurd (nI_ge' (by omega) (by omega)) c
theorem x_sees (hT : T ≤ 120) {r : Nat} (h : SX t T σ r) (c : Int32) : f_X3_sees c σ = some (bI (decide (0 < r ∧ t (T - r) = c)), σ) := by
  obtain ⟨h1, h2, h3, h4⟩ := h
  unfold f_X3_sees
  rw [h1, h3]
  by_cases z : 0 < r
  · rw [if_neg (nI_nge' (by omega) (by omega)), nI31 (by omega), h2 _ (by omega)]
    unfold chk
    rw [if_pos (ib_nI (by omega) (by omega))]
    by_cases e : t (T - r) = c
    · rw [if_pos e, decide_eq_true ⟨z, e⟩]; rfl
    · rw [if_neg e, decide_eq_false (fun w => e w.2)]; rfl
  · rw [if_pos (nI_ge' (by omega) (by omega)), decide_eq_false (fun w => z w.1)]; rfl
theorem x_seesDigit (hT : T ≤ 120) {r : Nat} (h : SX t T σ r) : f_X3_seesDigit σ = some (bI (sD t T r), σ) := by
  obtain ⟨h1, h2, h3, h4⟩ := h
  unfold f_X3_seesDigit sD
  rw [h1, h3]
  by_cases z : 0 < r
  · rw [if_neg (nI_nge' (by omega) (by omega)), nI31 (by omega), h2 _ (by omega), decide_eq_true z]
    unfold chk
    rw [if_pos (ib_nI (by omega) (by omega)), x_within]
    show (if bI (isD (t (T - r))) = 0 then _ else _) = _
    cases isD (t (T - r)) <;> rfl
  · rw [if_pos (nI_ge' (by omega) (by omega)), decide_eq_false z]; rfl
theorem x_isWord (hT : T ≤ 120) {r e w : Nat} (h : SX t T σ r) (he : e ≤ r) (hw : w < 8) : f_X3_isWord w (nI (T - e)) σ = some (bI (mW t T w r e), σ) := by
  obtain ⟨h1, h2, h3, h4⟩ := h
  have l8 := lenS_b w hw
  have loop : ∀ (d i fuel : Nat), r - e = lenS.getD w 0 → i + d = lenS.getD w 0 → d < fuel → mB t (T - r) w i = true → Ho (f_X3_isWord_17 w (fun (σ10 : St) => some ((1 : Int32), σ10)) fuel (nI i) σ) (fun q => q = (bI (mB t (T - r) w (lenS.getD w 0)), σ)) := by
    intro d
    induction d with
    | zero =>
      intro i fuel hl hd hf hm
      obtain ⟨fuel, rfl⟩ : ∃ f, fuel = f + 1 := ⟨fuel - 1, by omega⟩
      have ei : i = lenS.getD w 0 := by omega
      rw [f_X3_isWord_17]
      refine ho_t (nI_ge' (by omega) (by omega)) (ho_some ?_)
      rw [← ei, hm]; rfl
    | succ d ih =>
      intro i fuel hl hd hf hm
      obtain ⟨fuel, rfl⟩ : ∃ f, fuel = f + 1 := ⟨fuel - 1, by omega⟩
      rw [f_X3_isWord_17, h3, nI_add, nI31 (k := i) (by omega), nI31 (k := T - r + i) (by omega), h2 _ (by omega), nI_1 i]
      refine ho_f (nI_nge' (by omega) (by omega)) (ho_chk (ib_nI (by omega) (by omega)) (ho_chk (ib_nI (by omega) (by omega)) (ho_if (fun c => ?_) (fun c => ho_some ?_))))
      · exact ih (i + 1) fuel hl (by omega) (by omega) (by rw [mB, hm, decide_eq_true c]; rfl)
      · have no : ∀ k, mB t (T - r) w (i + 1 + k) = false := by
          intro k
          induction k with
          | zero => rw [Nat.add_zero, mB, decide_eq_false c, Bool.and_false]
          | succ k ih2 => rw [← Nat.add_assoc, mB, ih2, Bool.false_and]
        have := no (lenS.getD w 0 - (i + 1))
        rw [show i + 1 + (lenS.getD w 0 - (i + 1)) = lenS.getD w 0 by omega] at this
        rw [this]; rfl
  unfold f_X3_isWord mW
  have es : nI (T - e) - nI (T - r) = nI (r - e) := by
    rw [show T - e = (T - r) + (r - e) by omega, ← nI_add]
    grind
  rw [h3, es]
  by_cases c : r - e = lenS.getD w 0
  · rw [if_pos (by rw [c]), decide_eq_true c, Bool.true_and]
    obtain ⟨a, ha, rfl⟩ := loop (lenS.getD w 0) 0 1000 c (by omega) (by omega) rfl
    exact ha
  · rw [if_neg (fun q => c (nI_inj (by omega) (by omega) q)), decide_eq_false c]; rfl
theorem x_wordOf {w : Nat} (hw : w < 8) : f_X3_wordOf (nI w) σ = some (w, σ) := by
  have : w = 0 ∨ w = 1 ∨ w = 2 ∨ w = 3 ∨ w = 4 ∨ w = 5 ∨ w = 6 ∨ w = 7 := by omega
  rcases this with e | e | e | e | e | e | e | e <;> (subst e; rfl)
theorem x_readWord (hT : T ≤ 120) {r : Nat} (h : SX t T σ r) : Ho (f_X3_readWord σ) (fun q => Fr [3] σ q.2 ∧ (match wf t T r (ltD t T r) with | none => q.1 = 0 ∧ SX t T q.2 r | some k => q.1 = 1 ∧ SX t T q.2 (ltD t T r) ∧ q.2.1 3 4 = nI k)) := by
  have rT := h.2.2.2
  have ll := ltD_le t T r
  have loop2 : ∀ (n k fuel : Nat), k + n = 8 → n < fuel → Ho (f_X3_readWord_33 (nI (T - ltD t T r)) (fun (σ23 : St) => some ((0 : Int32), σ23)) fuel (nI k) σ) (fun q => Fr [3] σ q.2 ∧ (match wfN t T r (ltD t T r) n k with | none => q.1 = 0 ∧ SX t T q.2 r | some k => q.1 = 1 ∧ SX t T q.2 (ltD t T r) ∧ q.2.1 3 4 = nI k)) := by
    intro n
    induction n with
    | zero =>
      intro k fuel hd hf
      obtain ⟨fuel, rfl⟩ : ∃ f, fuel = f + 1 := ⟨fuel - 1, by omega⟩
      rw [f_X3_readWord_33]
      exact ho_t (nI_ge' (a := 8) (by omega) (by omega)) (ho_some ⟨Fr.refl, rfl, h⟩)
    | succ n ih =>
      intro k fuel hd hf
      obtain ⟨fuel, rfl⟩ : ∃ f, fuel = f + 1 := ⟨fuel - 1, by omega⟩
      rw [f_X3_readWord_33]
      refine ho_f (nI_nge' (a := 8) (by omega) (by omega)) (ho_be (x_wordOf (show k < 8 by omega)) (ho_chk (decide_eq_true (by omega)) (ho_be (x_isWord hT h ll (by omega)) ?_)))
      try dsimp only
      by_cases c : mW t T k r (ltD t T r) = true
      · rw [c]
        refine ho_f (by decide) (ho_nm (ho_nm (ho_some ⟨(Fr.refl.sI (by decide)).sI (by decide), ?_⟩)))
        rw [wfN, if_pos c]
        refine ⟨rfl, (h.kind (nI k)).put (by omega), ?_⟩
        show (sI (sI σ 3 4 (nI k)) 3 3 _).1 3 4 = nI k
        rw [sI_off _ _ _ _ (by decide), sI_at]
      · rw [bf_of c]
        refine ho_t rfl ?_
        rw [wfN, if_neg c, nI_1 k]
        exact ih (k + 1) fuel (by omega) (by omega)
  have loop1 : ∀ (s fuel : Nat), s ≤ r → s < fuel → ltD t T s = ltD t T r → Ho (f_X3_readWord_5 (fun (x10 : Int32) (σ11 : St) => f_X3_readWord_33 x10 (fun (σ23 : St) => some ((0 : Int32), σ23)) 1000 (0 : Int32) σ11) fuel (nI (T - s)) σ) (fun q => Fr [3] σ q.2 ∧ (match wf t T r (ltD t T r) with | none => q.1 = 0 ∧ SX t T q.2 r | some k => q.1 = 1 ∧ SX t T q.2 (ltD t T r) ∧ q.2.1 3 4 = nI k)) := by
    intro s
    induction s with
    | zero =>
      intro fuel hs hf hl
      obtain ⟨fuel, rfl⟩ : ∃ f, fuel = f + 1 := ⟨fuel - 1, by omega⟩
      rw [f_X3_readWord_5, h.1]
      refine ho_t (nI_ge' (by omega) (by omega)) ?_
      have e : ltD t T r = 0 := hl.symm
      have q := loop2 8 0 1000 (by omega) (by omega)
      rw [e] at q ⊢
      exact q
    | succ s ih =>
      intro fuel hs hf hl
      obtain ⟨fuel, rfl⟩ : ∃ f, fuel = f + 1 := ⟨fuel - 1, by omega⟩
      rw [f_X3_readWord_5, h.1, nI31 (by omega), h.2.1 _ (by omega), show nI (T - (s + 1)) + 1 = nI (T - (s + 1) + 1) from nI_1 _, show T - (s + 1) + 1 = T - s by omega]
      refine ho_f (nI_nge' (by omega) (by omega)) (ho_chk (ib_nI (by omega) (by omega)) ?_)
      have eL : f_X3_isLetter (t (T - (s + 1))) σ = some (bI (isA (t (T - (s + 1)))), σ) := by
        unfold f_X3_isLetter
        rw [x_within]
        show chk (decide (bI (isA (t (T - (s + 1)))) = 0 ∨ bI (isA (t (T - (s + 1)))) = 1)) (some (bI (isA (t (T - (s + 1)))), σ)) = _
        cases isA (t (T - (s + 1))) <;> rfl
      refine ho_be eL ?_
      try dsimp only
      by_cases c : isA (t (T - (s + 1))) = true
      · rw [c]
        refine ho_f (by decide) (ih fuel (by omega) (by omega) ?_)
        rw [← hl, ltD, if_pos c]
      · rw [bf_of c]
        refine ho_t rfl ?_
        have e : ltD t T r = s + 1 := by rw [← hl, ltD, if_neg c]
        have q := loop2 8 0 1000 (by omega) (by omega)
        rw [e] at q ⊢
        exact q
  unfold f_X3_readWord
  rw [h.2.2.1]
  exact ho_nm (loop1 r 1000 (Nat.le_refl r) (by omega) rfl)
end Tc
