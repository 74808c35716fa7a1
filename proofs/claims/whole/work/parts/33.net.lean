/-! the network: islands, the matrix, its solution, cuts -/
theorem rlt (a b : Rat) : a < b ∨ b ≤ a := by
  rcases Classical.em (a < b) with h | h
  · exact Or.inl h
  · exact Or.inr (by grind)
/-- sl i is the least bus that live lines join with i -/
def Isl (n m : Nat) (a b : Nat → Nat) (lv : Nat → Bool) (sl : Nat → Nat) : Prop :=
  (∀ i, i < n → sl i ≤ i ∧ sl (sl i) = sl i) ∧ (∀ l, l < m → lv l = true → sl (a l) = sl (b l)) ∧ ∀ P : Nat → Prop, (∀ l, l < m → lv l = true → (P (a l) ↔ P (b l))) → ∀ i, i < n → (P i ↔ P (sl i))
theorem Isl.one {n m : Nat} {a b : Nat → Nat} {lv : Nat → Bool} {s1 s2 : Nat → Nat} (h1 : Isl n m a b lv s1) (h2 : Isl n m a b lv s2) : ∀ i, i < n → s1 i = s2 i := by
  have key : ∀ {u v : Nat → Nat}, Isl n m a b lv u → Isl n m a b lv v → ∀ i, i < n → v i ≤ u i := by
    intro u v hu hv i hi
    have q := (hu.2.2 (fun j => v j = v i) (fun l hl hlv => by rw [hv.2.1 l hl hlv]) i hi).mp rfl
    have hui := (hu.1 i hi).1
    have := (hv.1 (u i) (by omega)).1
    omega
  intro i hi
  have := key h1 h2 i hi
  have := key h2 h1 i hi
  omega
theorem Isl.fn {n m : Nat} {a b : Nat → Nat} {lv : Nat → Bool} {sl : Nat → Nat} (h : Isl n m a b lv sl) {α : Type} (f : Nat → α) (hf : ∀ l, l < m → lv l = true → f (a l) = f (b l)) {i : Nat} (hi : i < n) : f i = f (sl i) :=
  ((h.2.2 (fun j => f i = f j) (fun l hl hlv => by rw [hf l hl hlv]) i hi).mp rfl)
theorem Isl.lt {n m : Nat} {a b : Nat → Nat} {lv : Nat → Bool} {sl : Nat → Nat} (h : Isl n m a b lv sl) {i : Nat} (hi : i < n) : sl i < n := by have := (h.1 i hi).1; omega
section Net
variable (n m : Nat) (a b : Nat → Nat) (s : Nat → Rat) (lv : Nat → Bool) (sl : Nat → Nat)
def ds (l i : Nat) : Rat := (if i = a l then 1 else 0) - (if i = b l then 1 else 0)
def La (i j : Nat) : Rat := sm (fun l => if lv l = true then s l * ds a b l i * ds a b l j else 0) m
def Am (i j : Nat) : Rat := if sl i = i then (if j = i then 1 else 0) else if sl j = j then 0 else La m a b s lv i j
end Net
theorem sm_pick {n : Nat} {y : Nat → Rat} {k : Nat} (hk : k < n) : sm (fun i => y i * (if i = k then 1 else 0)) n = y k := by
  rw [sm_one hk (fun j _ hne => by rw [if_neg hne]; grind), if_pos rfl]
  grind
theorem ds_sum {n : Nat} {a b : Nat → Nat} {l : Nat} (ha : a l < n) (hb : b l < n) (y : Nat → Rat) : sm (fun i => y i * ds a b l i) n = y (a l) - y (b l) := by
  have h : sm (fun i => y i * ds a b l i) n = sm (fun i => y i * (if i = a l then 1 else 0) + - (y i * (if i = b l then 1 else 0))) n := sm_congr (fun i _ => by unfold ds; grind)
  rw [h, sm_add, sm_neg, sm_pick ha, sm_pick hb]
  grind
section NetL
variable {n m : Nat} {a b : Nat → Nat} {s : Nat → Rat} {lv : Nat → Bool} {sl : Nat → Nat}
theorem La_symm (i j : Nat) : La m a b s lv i j = La m a b s lv j i := sm_congr (fun l _ => by split <;> grind)
theorem La_row (hab : ∀ l, l < m → a l < n ∧ b l < n) (y : Nat → Rat) (i : Nat) : sm (fun j => La m a b s lv i j * y j) n = sm (fun l => if lv l = true then s l * (y (a l) - y (b l)) * ds a b l i else 0) m := by
  have h1 : sm (fun j => La m a b s lv i j * y j) n = sm (fun j => sm (fun l => (if lv l = true then s l * ds a b l i * ds a b l j else 0) * y j) m) n := by
    refine sm_congr (fun j _ => ?_)
    unfold La
    rw [show ∀ z : Rat, z * y j = y j * z from fun z => by grind, ← sm_mul]
    exact sm_congr (fun l _ => by grind)
  rw [h1, sm_comm]
  refine sm_congr (fun l hl => ?_)
  by_cases hv : lv l = true
  · rw [if_pos hv, ← ds_sum (hab l hl).1 (hab l hl).2 y]
    have : sm (fun j => (if lv l = true then s l * ds a b l i * ds a b l j else 0) * y j) n = sm (fun j => (s l * ds a b l i) * (y j * ds a b l j)) n := sm_congr (fun j _ => by rw [if_pos hv]; grind)
    rw [this, sm_mul]
    grind
  · rw [if_neg hv]
    exact sm_zero (fun j _ => by rw [if_neg hv]; grind)
theorem La_qf (hab : ∀ l, l < m → a l < n ∧ b l < n) (y : Nat → Rat) : qf n (La m a b s lv) y = sm (fun l => if lv l = true then s l * ((y (a l) - y (b l)) * (y (a l) - y (b l))) else 0) m := by
  have h1 : qf n (La m a b s lv) y = sm (fun i => sm (fun l => y i * (if lv l = true then s l * (y (a l) - y (b l)) * ds a b l i else 0)) m) n := by
    unfold qf
    refine sm_congr (fun i _ => ?_)
    rw [sm_mul, ← La_row hab y i, ← sm_mul]
    exact sm_congr (fun j _ => by grind)
  rw [h1, sm_comm]
  refine sm_congr (fun l hl => ?_)
  by_cases hv : lv l = true
  · rw [if_pos hv]
    have : sm (fun i => y i * (if lv l = true then s l * (y (a l) - y (b l)) * ds a b l i else 0)) n = sm (fun i => (s l * (y (a l) - y (b l))) * (y i * ds a b l i)) n := sm_congr (fun i _ => by rw [if_pos hv]; grind)
    rw [this, sm_mul, ds_sum (hab l hl).1 (hab l hl).2]
    grind
  · rw [if_neg hv]
    exact sm_zero (fun i _ => by rw [if_neg hv]; grind)
theorem Am_qf (x : Nat → Rat) : qf n (Am m a b s lv sl) x = sm (fun i => if sl i = i then x i * x i else 0) n + qf n (La m a b s lv) (fun i => if sl i = i then 0 else x i) := by
  unfold qf
  rw [← sm_add]
  refine sm_congr (fun i hi => ?_)
  by_cases h : sl i = i
  · rw [if_pos h, sm_one hi (fun j _ hne => by unfold Am; rw [if_pos h, if_neg hne]; grind)]
    rw [sm_zero (f := fun j => (if sl i = i then (0 : Rat) else x i) * La m a b s lv i j * (if sl j = j then 0 else x j)) (fun j _ => by rw [if_pos h]; grind)]
    unfold Am
    rw [if_pos h, if_pos rfl]
    grind
  · rw [if_neg h]
    have : ∀ z : Rat, 0 + z = z := fun z => by grind
    rw [this]
    refine sm_congr (fun j _ => ?_)
    unfold Am
    dsimp only
    rw [if_neg h, if_neg h]
    split <;> grind
theorem Am_PD (hI : Isl n m a b lv sl) (hab : ∀ l, l < m → a l < n ∧ b l < n) (hs : ∀ l, l < m → 0 < s l) : PD n (Am m a b s lv sl) := by
  refine ⟨fun i j hi hj => ?_, fun x hx => ?_⟩
  · unfold Am
    by_cases h1 : sl i = i <;> by_cases h2 : sl j = j
    · rw [if_pos h1, if_pos h2]
      by_cases e : j = i
      · rw [if_pos e, if_pos e.symm]
      · rw [if_neg e, if_neg (fun q => e q.symm)]
    · rw [if_pos h1, if_neg h2, if_neg (fun e => h2 (by rw [e]; exact h1)), if_pos h1]
    · rw [if_neg h1, if_pos h2, if_pos h2, if_neg (fun e => h1 (by rw [e]; exact h2))]
    · rw [if_neg h1, if_neg h2, if_neg h2, if_neg h1]
      exact La_symm i j
  · obtain ⟨i, hi, hne⟩ := hx
    rw [Am_qf, La_qf hab]
    have n1 : ∀ k, k < n → 0 ≤ (if sl k = k then x k * x k else 0) := fun k _ => by
      split
      · exact sq_nn _
      · grind
    let y : Nat → Rat := fun i => if sl i = i then 0 else x i
    have n2 : ∀ l, l < m → 0 ≤ (if lv l = true then s l * ((y (a l) - y (b l)) * (y (a l) - y (b l))) else 0) := fun l hl => by
      split
      · exact Rat.mul_nonneg (by have := hs l hl; grind) (sq_nn _)
      · grind
    have g1 := sm_nn n1
    have g2 := sm_nn n2
    rcases rlt (0) (sm (fun i => if sl i = i then x i * x i else 0) n + sm (fun l => if lv l = true then s l * ((y (a l) - y (b l)) * (y (a l) - y (b l))) else 0) m) with h | h
    · exact h
    · exfalso
      have z : ∀ {f : Nat → Rat} {N : Nat}, (∀ k, k < N → 0 ≤ f k) → sm f N ≤ 0 → ∀ k, k < N → f k = 0 := by
        intro f N hf
        induction N with
        | zero => intro _ k hk; exact absurd hk (Nat.not_lt_zero k)
        | succ N ih =>
          intro hle k hk
          rw [sm] at hle
          have q1 := sm_nn (n := N) (f := f) (fun k hk => hf k (Nat.lt_succ_of_lt hk))
          have q2 := hf N (Nat.lt_succ_self N)
          by_cases e : k = N
          · subst e; grind
          · exact ih (fun k hk => hf k (Nat.lt_succ_of_lt hk)) (by grind) k (by omega)
      have z1 := z n1 (by grind)
      have z2 := z n2 (by grind)
      have sq0 : ∀ t : Rat, t * t = 0 → t = 0 := fun t ht => by
        rcases Rat.mul_eq_zero.mp ht with q | q <;> exact q
      have hy : ∀ l, l < m → lv l = true → y (a l) = y (b l) := fun l hl hv => by
        have q := z2 l hl
        rw [if_pos hv] at q
        have := hs l hl
        rcases Rat.mul_eq_zero.mp q with q | q
        · grind
        · have := sq0 _ q; grind
      have e1 := hI.fn y hy hi
      have e2 : y (sl i) = 0 := by
        show (if sl (sl i) = sl i then (0 : Rat) else x (sl i)) = 0
        rw [if_pos (hI.1 i hi).2]
      have e3 : y i = 0 := by rw [e1, e2]
      by_cases q : sl i = i
      · have := z1 i hi
        rw [if_pos q] at this
        exact hne (sq0 _ this)
      · have : y i = x i := if_neg q
        exact hne (by rw [← this, e3])
/-- x solves the network for the feeds f -/
def Sol (n m : Nat) (a b : Nat → Nat) (s : Nat → Rat) (lv : Nat → Bool) (sl : Nat → Nat) (f x : Nat → Rat) : Prop := (∀ i, i < n → sl i = i → x i = 0) ∧ ∀ i, i < n → sl i ≠ i → sm (fun l => if lv l = true then s l * (x (a l) - x (b l)) * ds a b l i else 0) m = f i
theorem Sol.of (hab : ∀ l, l < m → a l < n ∧ b l < n) {f x : Nat → Rat} (h : ∀ r, r < n → sm (fun j => Am m a b s lv sl r j * x j) n = if sl r = r then 0 else f r) : Sol n m a b s lv sl f x := by
  have h0 : ∀ i, i < n → sl i = i → x i = 0 := fun i hi hs => by
    have q := h i hi
    rw [if_pos hs, sm_one hi (fun j _ hne => by unfold Am; rw [if_pos hs, if_neg hne]; grind)] at q
    unfold Am at q
    rw [if_pos hs, if_pos rfl] at q
    grind
  refine ⟨h0, fun i hi hs => ?_⟩
  have q := h i hi
  rw [if_neg hs] at q
  rw [← q, ← La_row hab x i]
  refine sm_congr (fun j hj => ?_)
  unfold Am
  rw [if_neg hs]
  by_cases hj2 : sl j = j
  · rw [if_pos hj2, h0 j hj hj2]; grind
  · rw [if_neg hj2]
theorem Sol.ex (hI : Isl n m a b lv sl) (hab : ∀ l, l < m → a l < n ∧ b l < n) (hs : ∀ l, l < m → 0 < s l) (f : Nat → Rat) : ∃ x : Nat → Rat, (∀ r, r < n → sm (fun j => Am m a b s lv sl r j * x j) n = if sl r = r then 0 else f r) ∧ Sol n m a b s lv sl f x := by
  have hP := Am_PD hI hab hs
  obtain ⟨x, hx⟩ := dt_solve (n := n) (M := Am m a b s lv sl) (fun r => if sl r = r then 0 else f r) (fun t _ h2 => by have := hP.dpos (t := t) h2; grind)
  exact ⟨x, hx, Sol.of hab hx⟩
/-- what a set of buses sends out -/
theorem Sol.cut {f x : Nat → Rat} (hS : Sol n m a b s lv sl f x) (hab : ∀ l, l < m → a l < n ∧ b l < n) (c : Nat → Rat) (hc : ∀ i, i < n → sl i = i → c i = 0) : sm (fun i => c i * f i) n = sm (fun l => if lv l = true then s l * (x (a l) - x (b l)) * (c (a l) - c (b l)) else 0) m := by
  have h1 : sm (fun i => c i * f i) n = sm (fun i => sm (fun l => c i * (if lv l = true then s l * (x (a l) - x (b l)) * ds a b l i else 0)) m) n := by
    refine sm_congr (fun i hi => ?_)
    rw [sm_mul]
    by_cases h : sl i = i
    · rw [hc i hi h]; grind
    · rw [hS.2 i hi h]
  rw [h1, sm_comm]
  refine sm_congr (fun l hl => ?_)
  by_cases hv : lv l = true
  · rw [if_pos hv]
    have : sm (fun i => c i * (if lv l = true then s l * (x (a l) - x (b l)) * ds a b l i else 0)) n = sm (fun i => (s l * (x (a l) - x (b l))) * (c i * ds a b l i)) n := sm_congr (fun i _ => by rw [if_pos hv]; grind)
    rw [this, sm_mul, ds_sum (hab l hl).1 (hab l hl).2]
  · rw [if_neg hv]
    exact sm_zero (fun i _ => by rw [if_neg hv]; grind)
theorem sm_ge1 {f : Nat → Rat} {N k : Nat} (hf : ∀ j, j < N → 0 ≤ f j) (hk : k < N) : f k ≤ sm f N := by
  induction N with
  | zero => exact absurd hk (Nat.not_lt_zero k)
  | succ N ih =>
    rw [sm]
    have q1 := sm_nn (n := N) (f := f) (fun j hj => hf j (Nat.lt_succ_of_lt hj))
    have q2 := hf N (Nat.lt_succ_self N)
    by_cases e : k = N
    · subst e; grind
    · have := ih (fun j hj => hf j (Nat.lt_succ_of_lt hj)) (by omega); grind
theorem sm_ge2 {f : Nat → Rat} {N k j : Nat} (hf : ∀ j, j < N → 0 ≤ f j) (hk : k < N) (hj : j < N) (hkj : k ≠ j) : f k + f j ≤ sm f N := by
  induction N with
  | zero => exact absurd hk (Nat.not_lt_zero k)
  | succ N ih =>
    rw [sm]
    have hf' : ∀ j, j < N → 0 ≤ f j := fun j hj => hf j (Nat.lt_succ_of_lt hj)
    have q2 := hf N (Nat.lt_succ_self N)
    by_cases e : k = N
    · subst e
      have := sm_ge1 hf' (k := j) (by omega); grind
    · by_cases e2 : j = N
      · subst e2
        have := sm_ge1 hf' (k := k) (by omega); grind
      · have := ih hf' (by omega) (by omega); grind
/-- the set {x >= t}, t > 0, or {x <= t}, t < 0: its lines all lead one way -/
def up (x : Nat → Rat) (t : Rat) (i : Nat) : Rat := if t ≤ x i then 1 else 0
def lw (x : Nat → Rat) (t : Rat) (i : Nat) : Rat := if x i ≤ t then -1 else 0
theorem up_nn {x : Nat → Rat} {t : Rat} {p q : Nat} {z : Rat} (hz : 0 < z) : 0 ≤ z * (x p - x q) * (up x t p - up x t q) := by
  unfold up
  by_cases h1 : t ≤ x p <;> by_cases h2 : t ≤ x q
  · rw [if_pos h1, if_pos h2]; grind
  · rw [if_pos h1, if_neg h2]
    have := Rat.mul_nonneg (show 0 ≤ z by grind) (show 0 ≤ x p - x q by grind); grind
  · rw [if_neg h1, if_pos h2]
    have := Rat.mul_nonneg (show 0 ≤ z by grind) (show 0 ≤ x q - x p by grind); grind
  · rw [if_neg h1, if_neg h2]; grind
theorem lw_nn {x : Nat → Rat} {t : Rat} {p q : Nat} {z : Rat} (hz : 0 < z) : 0 ≤ z * (x p - x q) * (lw x t p - lw x t q) := by
  unfold lw
  by_cases h1 : x p ≤ t <;> by_cases h2 : x q ≤ t
  · rw [if_pos h1, if_pos h2]; grind
  · rw [if_pos h1, if_neg h2]
    have := Rat.mul_nonneg (show 0 ≤ z by grind) (show 0 ≤ x q - x p by grind); grind
  · rw [if_neg h1, if_pos h2]
    have := Rat.mul_nonneg (show 0 ≤ z by grind) (show 0 ≤ x p - x q by grind); grind
  · rw [if_neg h1, if_neg h2]; grind
/-- a cut through a line along which the angle falls: the set's lines lead out of it, and the line is among them -/
theorem Sol.through {f x : Nat → Rat} (hS : Sol n m a b s lv sl f x) (hab : ∀ l, l < m → a l < n ∧ b l < n) (hs : ∀ l, l < m → 0 < s l) {u v : Nat} (huv : x v < x u) : ∃ c : Nat → Rat, (∀ i, i < n → sl i = i → c i = 0) ∧ (∀ i, ab (c i) ≤ 1) ∧ (∀ l, l < m → 0 ≤ s l * (x (a l) - x (b l)) * (c (a l) - c (b l))) ∧ c u - c v = 1 ∧ (∀ p q, c p ≠ c q → x p ≠ x q) ∧ (∀ p q, c p ≠ c q → c p - c q = 1 ∨ c p - c q = -1) := by
  by_cases h : 0 < x u
  · refine ⟨up x (x u), fun i hi hsl => ?_, fun i => ?_, fun l hl => up_nn (hs l hl), ?_, fun p q hpq e => hpq ?_, fun p q hpq => ?_⟩
    · unfold up; rw [if_neg]; rw [hS.1 i hi hsl]; grind
    · unfold up ab; split <;> grind
    · unfold up; rw [if_pos (by grind), if_neg (by grind)]; grind
    · unfold up; rw [e]
    · unfold up at hpq ⊢
      by_cases h1 : x u ≤ x p <;> by_cases h2 : x u ≤ x q
      · rw [if_pos h1, if_pos h2] at hpq; exact absurd rfl hpq
      · rw [if_pos h1, if_neg h2]; grind
      · rw [if_neg h1, if_pos h2]; grind
      · rw [if_neg h1, if_neg h2] at hpq; exact absurd rfl hpq
  · refine ⟨lw x (x v), fun i hi hsl => ?_, fun i => ?_, fun l hl => lw_nn (hs l hl), ?_, fun p q hpq e => hpq ?_, fun p q hpq => ?_⟩
    · unfold lw; rw [if_neg]; rw [hS.1 i hi hsl]; grind
    · unfold lw ab; split <;> grind
    · unfold lw; rw [if_neg (by grind), if_pos (by grind)]; grind
    · unfold lw; rw [e]
    · unfold lw at hpq ⊢
      by_cases h1 : x p ≤ x v <;> by_cases h2 : x q ≤ x v
      · rw [if_pos h1, if_pos h2] at hpq; exact absurd rfl hpq
      · rw [if_pos h1, if_neg h2]; grind
      · rw [if_neg h1, if_pos h2]; grind
      · rw [if_neg h1, if_neg h2] at hpq; exact absurd rfl hpq
/-- no line carries more than all feeds together -/
theorem Sol.flow {f x : Nat → Rat} (hS : Sol n m a b s lv sl f x) (hab : ∀ l, l < m → a l < n ∧ b l < n) (hs : ∀ l, l < m → 0 < s l) {l : Nat} (hl : l < m) (hv : lv l = true) : ab (s l * (x (a l) - x (b l))) ≤ sm (fun i => if sl i = i then 0 else ab (f i)) n := by
  have key : ∀ u v : Nat, x v < x u → (∀ c : Nat → Rat, c u - c v = 1 → ab (s l * (x (a l) - x (b l))) = s l * (x (a l) - x (b l)) * (c (a l) - c (b l))) → ab (s l * (x (a l) - x (b l))) ≤ sm (fun i => if sl i = i then 0 else ab (f i)) n := by
    intro u v huv he
    obtain ⟨c, c1, c2, c3, c4, -⟩ := hS.through hab hs huv
    rw [he c c4]
    have h1 := hS.cut hab c c1
    have h2 := sm_ge1 (f := fun l => if lv l = true then s l * (x (a l) - x (b l)) * (c (a l) - c (b l)) else 0) (N := m) (k := l) (fun j hj => by split; exact c3 j hj; grind) hl
    rw [if_pos hv, ← h1] at h2
    have h3 : sm (fun i => c i * f i) n ≤ sm (fun i => if sl i = i then 0 else ab (f i)) n := by
      refine sm_le (fun i hi => ?_)
      split
      · next hsl => rw [c1 i hi hsl]; grind
      · have q := ab_mul (c i) (f i)
        have q2 := (ab_le (x := c i * f i)).2
        have q3 := mul_le2 (c2 i) (Rat.le_refl (a := ab (f i))) (ab_nn (f i)) (by grind)
        grind
    grind
  rcases rlt (x (b l)) (x (a l)) with h | h
  · refine key _ _ h (fun c hc => ?_)
    rw [hc]
    have := Rat.mul_nonneg (show 0 ≤ s l by have := hs l hl; grind) (show 0 ≤ x (a l) - x (b l) by grind)
    unfold ab
    rw [if_neg (by grind)]
    grind
  · by_cases e : x (a l) = x (b l)
    · rw [e]
      have h0 : ab (s l * (x (b l) - x (b l))) = 0 := by
        rw [show s l * (x (b l) - x (b l)) = 0 by grind]; unfold ab; grind
      rw [h0]
      exact sm_nn (fun i _ => by split; grind; exact ab_nn _)
    · refine key (b l) (a l) (by grind) (fun c hc => ?_)
      have := Rat.mul_nonneg (show 0 ≤ s l by have := hs l hl; grind) (show 0 ≤ x (b l) - x (a l) by grind)
      rw [show c (a l) - c (b l) = -1 by grind]
      unfold ab
      split <;> grind
/-- one unit is sent along a line that is no bridge: the line itself carries less than the whole of it -/
theorem Sol.bridge {f x : Nat → Rat} (hS : Sol n m a b s lv sl f x) (hab : ∀ l, l < m → a l < n ∧ b l < n) (hs : ∀ l, l < m → 0 < s l) {k : Nat} (hk : k < m) (hv : lv k = true) (hf : ∀ i, i < n → f i = ds a b k i)
    {sl' : Nat → Nat} (hI : Isl n m a b (fun l => lv l && !(l == k)) sl') (hnb : sl' (a k) = sl' (b k)) : s k * (x (a k) - x (b k)) < 1 := by
  rcases rlt (x (b k)) (x (a k)) with h | h
  · obtain ⟨c, c1, c2, c3, c4, c5, c6⟩ := hS.through hab hs h
    have h1 := hS.cut hab c c1
    have h2 : sm (fun i => c i * f i) n = 1 := by
      rw [sm_congr (g := fun i => c i * ds a b k i) (fun i hi => by rw [hf i hi]), ds_sum (hab k hk).1 (hab k hk).2, c4]
    rw [h2] at h1
    rcases rlt (s k * (x (a k) - x (b k))) (1) with q | q
    · exact q
    · exfalso
      have nn : ∀ j, j < m → 0 ≤ (fun l => if lv l = true then s l * (x (a l) - x (b l)) * (c (a l) - c (b l)) else 0) j := fun j hj => by
        dsimp only; split; exact c3 j hj; grind
      have cross : ∀ l, l < m → (lv l && !(l == k)) = true → c (a l) = c (b l) := by
        intro l hl hlv
        simp only [Bool.and_eq_true, Bool.not_eq_true', beq_eq_false_iff_ne, ne_eq] at hlv
        rcases Classical.em (c (a l) = c (b l)) with e | e
        · exact e
        · exfalso
          have g := sm_ge2 nn hk hl (fun q => hlv.2 q.symm)
          rw [if_pos hv, if_pos hlv.1, ← h1, c4] at g
          have g2 := c3 l hl
          have g3 : s l * (x (a l) - x (b l)) * (c (a l) - c (b l)) = 0 := by grind
          have hx := c5 _ _ e
          have hsl := hs l hl
          rcases Rat.mul_eq_zero.mp g3 with w | w
          · rcases Rat.mul_eq_zero.mp w with w | w <;> grind
          · grind
      have e1 := hI.fn c cross (hab k hk).1
      have e2 := hI.fn c cross (hab k hk).2
      rw [hnb, ← e2] at e1
      grind
  · have := Rat.mul_nonneg (show 0 ≤ s k by have := hs k hk; grind) (show 0 ≤ x (b k) - x (a k) by grind)
    grind
end NetL
