/-! positive definite; bounds; whole numbers; rows and columns of the identity -/
def qf (n : Nat) (M : Nat → Nat → Rat) (x : Nat → Rat) : Rat := sm (fun i => sm (fun j => x i * M i j * x j) n) n
def PD (n : Nat) (M : Nat → Nat → Rat) : Prop := (∀ i j, i < n → j < n → M i j = M j i) ∧ ∀ x : Nat → Rat, (∃ i, i < n ∧ x i ≠ 0) → 0 < qf n M x
theorem PD.diag {n : Nat} {M : Nat → Nat → Rat} (h : PD n M) {i : Nat} (hi : i < n) : 0 < M i i := by
  have h1 := h.2 (fun j => if j = i then 1 else 0) ⟨i, hi, by rw [if_pos rfl]; grind⟩
  unfold qf at h1
  dsimp only at h1
  rw [sm_one hi (fun j hj hne => sm_zero (fun k _ => by rw [if_neg hne]; grind)), sm_one hi (fun j hj hne => by rw [if_neg hne]; grind), if_pos rfl] at h1
  grind
theorem PD.schur {n : Nat} {M : Nat → Nat → Rat} (h : PD (n + 1) M) : PD n (Sc M) := by
  have hp := h.diag (Nat.succ_pos n)
  refine ⟨fun i j hi hj => ?_, fun y hy => ?_⟩
  · unfold Sc
    rw [h.1 (i + 1) (j + 1) (by omega) (by omega), h.1 (i + 1) 0 (by omega) (by omega), h.1 0 (j + 1) (by omega) (by omega)]
    grind
  · obtain ⟨i, hi, hne⟩ := hy
    let t := sm (fun j => M 0 (j + 1) * y j) n
    let x : Nat → Rat := fun j => match j with | 0 => - t / M 0 0 | j + 1 => y j
    have h1 := h.2 x ⟨i + 1, by omega, hne⟩
    have e1 : qf (n + 1) M x = x 0 * (M 0 0 * x 0 + t) + (x 0 * t + qf n (fun i j => M (i + 1) (j + 1)) y) := by
      unfold qf
      rw [sm_head]
      congr 1
      · rw [sm_head, show x 0 * (M 0 0 * x 0 + t) = x 0 * M 0 0 * x 0 + x 0 * t by grind]
        congr 1
        rw [← sm_mul]
        exact sm_congr (fun j _ => by show x 0 * M 0 (j + 1) * y j = _; grind)
      · rw [show x 0 * t = sm (fun i => x 0 * (M 0 (i + 1) * y i)) n from (sm_mul _ _ _).symm, ← sm_add]
        refine sm_congr (fun i hi => ?_)
        rw [sm_head]
        congr 1
        show y i * M (i + 1) 0 * x 0 = _
        rw [h.1 (i + 1) 0 (by omega) (by omega)]
        grind
    have e2 : qf n (Sc M) y = qf n (fun i j => M (i + 1) (j + 1)) y - t * t / M 0 0 := by
      have : qf n (Sc M) y = sm (fun i => sm (fun j => y i * M (i + 1) (j + 1) * y j) n + (- (t / M 0 0)) * (M 0 (i + 1) * y i)) n := by
        unfold qf
        refine sm_congr (fun i hi => ?_)
        have e3 : (- (t / M 0 0)) * (M 0 (i + 1) * y i) = sm (fun j => (- (M 0 (i + 1) * y i / M 0 0)) * (M 0 (j + 1) * y j)) n := by
          rw [sm_mul]
          show _ = _ * t
          grind
        rw [e3, ← sm_add]
        refine sm_congr (fun j hj => ?_)
        unfold Sc
        rw [h.1 (i + 1) 0 (by omega) (by omega)]
        grind
      rw [this, sm_add, sm_mul]
      show _ + _ * t = _
      unfold qf
      grind
    rw [e1] at h1
    rw [e2]
    have hx0 : x 0 = - t / M 0 0 := rfl
    rw [hx0] at h1
    grind
theorem PD.dpos : ∀ {n t : Nat} {M : Nat → Nat → Rat}, PD n M → t ≤ n → 0 < dt t M
  | _, 0, _, _, _ => by show (0 : Rat) < 1; grind
  | 0, t + 1, _, _, h => absurd h (by omega)
  | n + 1, t + 1, M, h, ht => by
    have hp := h.diag (Nat.succ_pos n)
    rw [dt_schur (by grind)]
    have h2 := PD.dpos (t := t) h.schur (by omega)
    exact Rat.mul_pos hp h2
def pr (f : Nat → Rat) : Nat → Rat
  | 0 => 1
  | n + 1 => pr f n * f n
theorem pr_head (f : Nat → Rat) : ∀ n, pr f (n + 1) = f 0 * pr (fun k => f (k + 1)) n
  | 0 => by show (1 : Rat) * f 0 = f 0 * 1; grind
  | n + 1 => by rw [pr, pr_head f n, pr]; grind
theorem pr_nn {f : Nat → Rat} : ∀ {n : Nat}, (∀ k, k < n → 0 ≤ f k) → 0 ≤ pr f n
  | 0, _ => by show (0 : Rat) ≤ 1; grind
  | n + 1, h => Rat.mul_nonneg (pr_nn (fun k hk => h k (Nat.lt_succ_of_lt hk))) (h n (Nat.lt_succ_self n))
theorem mul_le2 {a b c d : Rat} (h1 : a ≤ b) (h2 : c ≤ d) (h3 : 0 ≤ c) (h4 : 0 ≤ b) : a * c ≤ b * d := by
  have e1 : 0 ≤ (b - a) * c := Rat.mul_nonneg (by grind) h3
  have e2 : 0 ≤ b * (d - c) := Rat.mul_nonneg h4 (by grind)
  grind
theorem pr_le {f g : Nat → Rat} : ∀ {n : Nat}, (∀ k, k < n → 0 ≤ f k ∧ f k ≤ g k) → pr f n ≤ pr g n
  | 0, _ => by show (1 : Rat) ≤ 1; grind
  | n + 1, h => mul_le2 (pr_le (fun k hk => h k (Nat.lt_succ_of_lt hk))) (h n (Nat.lt_succ_self n)).2 (h n (Nat.lt_succ_self n)).1 (pr_nn (fun k hk => by have := h k (Nat.lt_succ_of_lt hk); grind))
theorem pr_congr {f g : Nat → Rat} : ∀ {n : Nat}, (∀ k, k < n → f k = g k) → pr f n = pr g n
  | 0, _ => rfl
  | n + 1, h => by rw [pr, pr, pr_congr (fun k hk => h k (Nat.lt_succ_of_lt hk)), h n (Nat.lt_succ_self n)]
theorem sq_nn (a : Rat) : 0 ≤ a * a := by
  rcases Rat.le_total (a := 0) (b := a) with h | h
  · exact Rat.mul_nonneg h h
  · have := Rat.mul_nonneg (show 0 ≤ -a by grind) (show 0 ≤ -a by grind)
    grind
theorem PD.dle : ∀ {n t : Nat} {M : Nat → Nat → Rat}, PD n M → t ≤ n → dt t M ≤ pr (fun i => M i i) t
  | _, 0, _, _, _ => by show (1 : Rat) ≤ 1; grind
  | 0, t + 1, _, _, h => absurd h (by omega)
  | n + 1, t + 1, M, h, ht => by
    have hp := h.diag (Nat.succ_pos n)
    rw [dt_schur (by grind), pr_head]
    have hS := h.schur
    have h1 := PD.dle (t := t) hS (by omega)
    have h2 : pr (fun i => Sc M i i) t ≤ pr (fun i => M (i + 1) (i + 1)) t := by
      refine pr_le (fun k hk => ⟨?_, ?_⟩)
      · have := hS.diag (i := k) (by omega); grind
      · unfold Sc
        rw [h.1 (k + 1) 0 (by omega) (by omega)]
        have e : 0 ≤ M 0 (k + 1) * M 0 (k + 1) / M 0 0 := by
          rw [Rat.div_def]
          exact Rat.mul_nonneg (sq_nn _) (by have := Rat.inv_pos (a := M 0 0); grind)
        grind
    have h3 := PD.dpos (t := t) hS (by omega)
    exact mul_le2 (by grind) (by grind) (by grind) (by grind)
def ab (x : Rat) : Rat := if x < 0 then -x else x
theorem ab_nn (x : Rat) : 0 ≤ ab x := by unfold ab; split <;> grind
theorem ab_le {x : Rat} : -ab x ≤ x ∧ x ≤ ab x := by unfold ab; split <;> grind
theorem ab_of {x b : Rat} (h : -b ≤ x) (h2 : x ≤ b) : ab x ≤ b := by unfold ab; split <;> grind
theorem ab_add (x y : Rat) : ab (x + y) ≤ ab x + ab y := by unfold ab; (repeat' split) <;> grind
theorem ab_mul (x y : Rat) : ab (x * y) = ab x * ab y := by
  unfold ab
  by_cases h1 : x < 0 <;> by_cases h2 : y < 0
  · rw [if_pos h1, if_pos h2, if_neg]
    · grind
    · have := Rat.mul_nonneg (show 0 ≤ -x by grind) (show 0 ≤ -y by grind); grind
  · rw [if_pos h1, if_neg h2]
    by_cases h3 : x * y < 0
    · rw [if_pos h3]; grind
    · rw [if_neg h3]
      have := Rat.mul_nonneg (show 0 ≤ -x by grind) (show 0 ≤ y by grind); grind
  · rw [if_neg h1, if_pos h2]
    by_cases h3 : x * y < 0
    · rw [if_pos h3]; grind
    · rw [if_neg h3]
      have := Rat.mul_nonneg (show 0 ≤ x by grind) (show 0 ≤ -y by grind); grind
  · rw [if_neg h1, if_neg h2, if_neg]
    have := Rat.mul_nonneg (show 0 ≤ x by grind) (show 0 ≤ y by grind); grind
theorem ab_sg (j : Nat) : ab (sg j) = 1 := by unfold sg; split <;> (unfold ab; grind)
theorem sm_le {f g : Nat → Rat} : ∀ {n : Nat}, (∀ k, k < n → f k ≤ g k) → sm f n ≤ sm g n
  | 0, _ => by show (0 : Rat) ≤ 0; grind
  | n + 1, h => by
    have h1 := sm_le (fun k hk => h k (Nat.lt_succ_of_lt hk))
    have h2 := h n (Nat.lt_succ_self n)
    rw [sm, sm]; grind
theorem ab_sm (f : Nat → Rat) : ∀ n, ab (sm f n) ≤ sm (fun k => ab (f k)) n
  | 0 => by show ab 0 ≤ 0; unfold ab; grind
  | n + 1 => by
    have h1 := ab_sm f n
    have h2 := ab_add (sm f n) (f n)
    rw [sm, sm]; grind
theorem sm_nn {f : Nat → Rat} {n : Nat} (h : ∀ k, k < n → 0 ≤ f k) : 0 ≤ sm f n := by
  have h1 := sm_le (f := fun _ => 0) h
  rw [sm_zero (fun _ _ => rfl)] at h1
  exact h1
theorem pr_skip {m d : Nat → Rat} : ∀ n, (∀ k, k < n → 0 ≤ m k ∧ 0 ≤ d k) → sm (fun j => m j * pr (fun k => d (sk j k)) (n - 1)) n ≤ pr (fun c => m c + d c) n ∧ pr d n ≤ pr (fun c => m c + d c) n
  | 0, _ => ⟨by show (0 : Rat) ≤ 1; grind, by show (1 : Rat) ≤ 1; grind⟩
  | n + 1, h => by
    obtain ⟨h1, h2⟩ := pr_skip n (fun k hk => h k (Nat.lt_succ_of_lt hk))
    obtain ⟨hm, hd⟩ := h n (Nat.lt_succ_self n)
    have e : sm (fun j => m j * pr (fun k => d (sk j k)) (n + 1 - 1)) (n + 1) = d n * sm (fun j => m j * pr (fun k => d (sk j k)) (n - 1)) n + m n * pr d n := by
      rw [sm, ← sm_mul]
      congr 1
      · refine sm_congr (fun j hj => ?_)
        rw [show n + 1 - 1 = (n - 1) + 1 by omega, pr, show sk j (n - 1) = n by unfold sk; rw [if_neg (by omega)]; omega]
        grind
      · rw [show n + 1 - 1 = n by omega]
        congr 1
        refine pr_congr (fun k hk => ?_)
        unfold sk
        rw [if_pos hk]
    rw [e]
    have hP : 0 ≤ pr (fun c => m c + d c) n := pr_nn (fun k hk => by have := h k (Nat.lt_succ_of_lt hk); grind)
    have hD : 0 ≤ pr d n := pr_nn (fun k hk => (h k (Nat.lt_succ_of_lt hk)).2)
    have g1 : 0 ≤ d n * (pr (fun c => m c + d c) n - sm (fun j => m j * pr (fun k => d (sk j k)) (n - 1)) n) := Rat.mul_nonneg hd (by grind)
    have g2 : 0 ≤ m n * (pr (fun c => m c + d c) n - pr d n) := Rat.mul_nonneg hm (by grind)
    have g3 : 0 ≤ m n * pr d n := Rat.mul_nonneg hm hD
    have g4 : 0 ≤ d n * (pr (fun c => m c + d c) n - pr d n) := Rat.mul_nonneg hd (by grind)
    have g5 : 0 ≤ m n * pr (fun c => m c + d c) n := Rat.mul_nonneg hm hP
    rw [pr, pr]
    constructor <;> grind
/-- a determinant is at most the product of its columns' sums -/
theorem dt_cols : ∀ (n : Nat) (M : Nat → Nat → Rat), ab (dt n M) ≤ pr (fun c => sm (fun r => ab (M r c)) n) n
  | 0, M => by show ab 1 ≤ 1; unfold ab; grind
  | n + 1, M => by
    rw [dt_succ]
    have h1 := ab_sm (fun j => sg j * M 0 j * dt n (fun r c => M (r + 1) (sk j c))) (n + 1)
    have h2 : sm (fun j => ab (sg j * M 0 j * dt n (fun r c => M (r + 1) (sk j c)))) (n + 1) ≤ sm (fun j => ab (M 0 j) * pr (fun k => (fun c => sm (fun r => ab (M (r + 1) c)) n) (sk j k)) (n + 1 - 1)) (n + 1) := by
      refine sm_le (fun j hj => ?_)
      rw [ab_mul, ab_mul, ab_sg]
      have h3 := dt_cols n (fun r c => M (r + 1) (sk j c))
      have h4 := Rat.mul_nonneg (ab_nn (M 0 j)) (show 0 ≤ pr (fun c => sm (fun r => ab (M (r + 1) (sk j c))) n) n - ab (dt n (fun r c => M (r + 1) (sk j c))) by grind)
      rw [show n + 1 - 1 = n by omega]
      grind
    have h3 := (pr_skip (m := fun c => ab (M 0 c)) (d := fun c => sm (fun r => ab (M (r + 1) c)) n) (n + 1) (fun k _ => ⟨ab_nn _, sm_nn (fun r _ => ab_nn _)⟩)).1
    have h4 : pr (fun c => ab (M 0 c) + sm (fun r => ab (M (r + 1) c)) n) (n + 1) = pr (fun c => sm (fun r => ab (M r c)) (n + 1)) (n + 1) := pr_congr (fun c _ => (sm_head (fun r => ab (M r c)) n).symm)
    rw [h4] at h3
    grind
def isI (x : Rat) : Prop := ∃ z : Int, x = (z : Rat)
theorem isI.add {x y : Rat} (h1 : isI x) (h2 : isI y) : isI (x + y) := by
  obtain ⟨a, rfl⟩ := h1
  obtain ⟨b, rfl⟩ := h2
  exact ⟨a + b, by rw [Rat.intCast_add]⟩
theorem isI.mul {x y : Rat} (h1 : isI x) (h2 : isI y) : isI (x * y) := by
  obtain ⟨a, rfl⟩ := h1
  obtain ⟨b, rfl⟩ := h2
  exact ⟨a * b, by rw [Rat.intCast_mul]⟩
theorem isI_sg (j : Nat) : isI (sg j) := by
  unfold sg
  split
  · exact ⟨1, rfl⟩
  · exact ⟨-1, rfl⟩
theorem isI_sm {f : Nat → Rat} : ∀ {n : Nat}, (∀ k, k < n → isI (f k)) → isI (sm f n)
  | 0, _ => ⟨0, rfl⟩
  | n + 1, h => (isI_sm (fun k hk => h k (Nat.lt_succ_of_lt hk))).add (h n (Nat.lt_succ_self n))
theorem isI_dt : ∀ {n : Nat} {M : Nat → Nat → Rat}, (∀ r c, r < n → c < n → isI (M r c)) → isI (dt n M)
  | 0, _, _ => ⟨1, rfl⟩
  | n + 1, M, h => by
    rw [dt_succ]
    exact isI_sm (fun j hj => ((isI_sg j).mul (h 0 j (Nat.succ_pos n) hj)).mul (isI_dt (fun r c hr hc => h (r + 1) (sk j c) (Nat.succ_lt_succ hr) (sk_lt hc))))
/-- rows and columns of the identity can go -/
theorem dt_mem : ∀ {n m : Nat} {M : Nat → Nat → Rat} {me : Nat → Nat}, PD n M → (∀ k, k < m → me k < n) → (∀ k, k + 1 < m → me k < me (k + 1)) → (∀ i, i < n → (∀ k, k < m → me k ≠ i) → M i i = 1 ∧ ∀ j, j < n → j ≠ i → M i j = 0) → dt n M = dt m (fun r c => M (me r) (me c))
  | 0, m, M, me, _, hl, _, _ => by
    match m, hl with
    | 0, _ => rfl
    | m + 1, hl => exact absurd (hl 0 (Nat.succ_pos m)) (Nat.not_lt_zero _)
  | n + 1, m, M, me, h, hl, hs, hid => by
    have hp := h.diag (Nat.succ_pos n)
    have mono : ∀ a b, a ≤ b → b < m → me a + (b - a) ≤ me b := by
      intro a b hab hb
      induction b with
      | zero => rw [show a = 0 by omega]; exact Nat.le_refl _
      | succ b ih =>
        by_cases e : a = b + 1
        · rw [e]; omega
        · have h1 := ih (by omega) (by omega)
          have h2 := hs b hb
          omega
    by_cases h0 : 0 < m ∧ me 0 = 0
    · obtain ⟨h0, h00⟩ := h0
      obtain ⟨m, rfl⟩ : ∃ m', m = m' + 1 := ⟨m - 1, by omega⟩
      rw [dt_schur (by grind), dt_schur (M := fun r c => M (me r) (me c)) (by rw [h00]; grind), h00]
      have ge : ∀ k, k < m → 1 ≤ me (k + 1) := fun k hk => by have := mono 0 (k + 1) (by omega) (by omega); omega
      rw [dt_mem (n := n) (m := m) (M := Sc M) (me := fun k => me (k + 1) - 1) h.schur (fun k hk => by have := hl (k + 1) (by omega); have := ge k hk; omega) (fun k hk => by have := hs (k + 1) (by omega); have := ge k (by omega); omega) (fun i hi hne => ?_)]
      · congr 1
        refine dt_congr (fun r c hr hc => ?_)
        unfold Sc
        dsimp only
        rw [show me (r + 1) - 1 + 1 = me (r + 1) by have := ge r hr; omega, show me (c + 1) - 1 + 1 = me (c + 1) by have := ge c hc; omega, h00]
      · have h1 := hid (i + 1) (by omega) (fun k hk q => by
          match k, hk with
          | 0, _ => omega
          | k + 1, hk => exact hne k (by omega) (by omega))
        refine ⟨?_, fun j hj hji => ?_⟩
        · unfold Sc
          rw [h1.1, h1.2 0 (by omega) (by omega)]
          grind
        · unfold Sc
          rw [h1.2 (j + 1) (by omega) (by omega), h1.2 0 (by omega) (by omega)]
          grind
    · have ge : ∀ k, k < m → 1 ≤ me k := fun k hk => by
        have := mono 0 k (by omega) hk
        by_cases q : me 0 = 0
        · exact absurd ⟨by omega, q⟩ h0
        · omega
      have h1 := hid 0 (Nat.succ_pos n) (fun k hk q => by have := ge k hk; omega)
      rw [dt_schur (by grind), h1.1]
      have e : dt n (Sc M) = dt m (fun r c => Sc M (me r - 1) (me c - 1)) := dt_mem (n := n) (m := m) (M := Sc M) (me := fun k => me k - 1) h.schur (fun k hk => by have := hl k hk; have := ge k hk; omega) (fun k hk => by have := hs k hk; have := ge k (by omega); omega) (fun i hi hne => by
        have h2 := hid (i + 1) (by omega) (fun k hk q => hne k hk (by omega))
        refine ⟨?_, fun j hj hji => ?_⟩
        · unfold Sc
          rw [h2.1, h2.2 0 (by omega) (by omega)]
          grind
        · unfold Sc
          rw [h2.2 (j + 1) (by omega) (by omega), h2.2 0 (by omega) (by omega)]
          grind)
      rw [e, show ∀ z : Rat, 1 * z = z from fun z => by grind]
      refine dt_congr (fun r c hr hc => ?_)
      unfold Sc
      rw [show me r - 1 + 1 = me r by have := ge r hr; omega, show me c - 1 + 1 = me c by have := ge c hc; omega, h1.2 (me c) (hl c hc) (by have := ge c hc; omega)]
      grind
