/-! an island's own square; bounds in numbers -/
/-- me lists M places below n, rising -/
def Inc (n M : Nat) (me : Nat → Nat) : Prop := (∀ k, k < M → me k < n) ∧ ∀ k, k + 1 < M → me k < me (k + 1)
theorem Inc.mono {n M : Nat} {me : Nat → Nat} (h : Inc n M me) {p q : Nat} (hpq : p < q) (hq : q < M) : me p < me q := by
  induction q with
  | zero => exact absurd hpq (Nat.not_lt_zero p)
  | succ q ih =>
    have h2 := h.2 q hq
    by_cases e : p = q
    · rw [e]; exact h2
    · have := ih (by omega) (by omega); omega
theorem Inc.inj {n M : Nat} {me : Nat → Nat} (h : Inc n M me) {p q : Nat} (hp : p < M) (hq : q < M) (e : me p = me q) : p = q := by
  rcases Nat.lt_trichotomy p q with r | r | r
  · have := h.mono r hq; omega
  · exact r
  · have := h.mono r hp; omega
theorem sm_mem : ∀ {n M : Nat} {me : Nat → Nat} {f : Nat → Rat}, Inc n M me → (∀ j, j < n → (∀ k, k < M → me k ≠ j) → f j = 0) → sm f n = sm (fun k => f (me k)) M
  | 0, M, me, f, h, _ => by
    match M, h with
    | 0, _ => rfl
    | M + 1, h => exact absurd (h.1 0 (Nat.succ_pos M)) (Nat.not_lt_zero _)
  | n + 1, M, me, f, h, h0 => by
    by_cases e : 0 < M ∧ me (M - 1) = n
    · obtain ⟨e1, e2⟩ := e
      obtain ⟨M, rfl⟩ : ∃ M', M = M' + 1 := ⟨M - 1, by omega⟩
      rw [show M + 1 - 1 = M by omega] at e2
      rw [sm, sm, e2, sm_mem (n := n) (M := M) (me := me) (f := f) ⟨fun k hk => by have := h.mono (p := k) (q := M) hk (by omega); omega, fun k hk => h.2 k (by omega)⟩ (fun j hj hne => h0 j (by omega) (fun k hk => by
        by_cases q : k = M
        · rw [q, e2]; omega
        · exact hne k (by omega)))]
    · have hlt : ∀ k, k < M → me k < n := fun k hk => by
        have h1 := h.1 k hk
        by_cases q : k = M - 1
        · have : me k ≠ n := fun w => e ⟨by omega, by rw [← q]; exact w⟩
          omega
        · have := h.mono (p := k) (q := M - 1) (by omega) (by omega)
          have := h.1 (M - 1) (by omega)
          omega
      rw [sm, h0 n (Nat.lt_succ_self n) (fun k hk => by have := hlt k hk; omega), sm_mem (n := n) (M := M) (me := me) (f := f) ⟨hlt, h.2⟩ (fun j hj hne => h0 j (by omega) hne)]
      grind
theorem PD.mem {n M : Nat} {A : Nat → Nat → Rat} {me : Nat → Nat} (h : PD n A) (hm : Inc n M me) : PD M (fun r c => A (me r) (me c)) := by
  refine ⟨fun i j hi hj => h.1 _ _ (hm.1 i hi) (hm.1 j hj), fun z hz => ?_⟩
  obtain ⟨i, hi, hne⟩ := hz
  let x : Nat → Rat := fun j => sm (fun k => if me k = j then z k else 0) M
  have x1 : ∀ k, k < M → x (me k) = z k := fun k hk => by
    show sm _ M = _
    rw [sm_one hk (fun j hj hne => if_neg (fun e => hne (hm.inj hj hk e))), if_pos rfl]
  have x2 : ∀ j, (∀ k, k < M → me k ≠ j) → x j = 0 := fun j hj => sm_zero (fun k hk => if_neg (hj k hk))
  have h1 := h.2 x ⟨me i, hm.1 i hi, by rw [x1 i hi]; exact hne⟩
  have e : qf n A x = qf M (fun r c => A (me r) (me c)) z := by
    unfold qf
    rw [sm_mem hm (fun j hj hne => sm_zero (fun k _ => by rw [x2 j hne]; grind))]
    refine sm_congr (fun r hr => ?_)
    rw [sm_mem hm (fun j hj hne => by rw [x2 j hne]; grind)]
    exact sm_congr (fun c hc => by rw [x1 r hr, x1 c hc])
  rw [e] at h1
  exact h1
section MemL
variable {n m : Nat} {a b : Nat → Nat} {s : Nat → Rat} {lv : Nat → Bool} {sl : Nat → Nat}
theorem La_apart (hI : Isl n m a b lv sl) {i j : Nat} (h : sl i ≠ sl j) : La m a b s lv i j = 0 := by
  refine sm_zero (fun l hl => ?_)
  by_cases hv : lv l = true
  · rw [if_pos hv]
    have e := hI.2.1 l hl hv
    unfold ds
    by_cases i1 : i = a l <;> by_cases i2 : i = b l <;> by_cases j1 : j = a l <;> by_cases j2 : j = b l <;> simp only [i1, i2, j1, j2, if_true, if_false, ite_true, ite_false] <;> first | grind | (exfalso; apply h; rw [i1, j2]; exact e) | (exfalso; apply h; rw [i2, j1]; exact e.symm) | (exfalso; apply h; rw [i1, j1]) | (exfalso; apply h; rw [i2, j2])
  · rw [if_neg hv]
/-- me lists the buses of the island of root but root itself -/
def Mem (n : Nat) (sl : Nat → Nat) (root M : Nat) (me : Nat → Nat) : Prop := Inc n M me ∧ (∀ k, k < M → sl (me k) = root ∧ me k ≠ root) ∧ ∀ j, j < n → sl j = root → j ≠ root → ∃ k, k < M ∧ me k = j
theorem Sol.mem {f x : Nat → Rat} (hS : Sol n m a b s lv sl f x) (hI : Isl n m a b lv sl) (hab : ∀ l, l < m → a l < n ∧ b l < n) {root M : Nat} {me : Nat → Nat} (hM : Mem n sl root M me) : ∀ r, r < M → sm (fun c => La m a b s lv (me r) (me c) * x (me c)) M = f (me r) := by
  intro r hr
  have h1 := hM.1.1 r hr
  obtain ⟨h2, h3⟩ := hM.2.1 r hr
  rw [← hS.2 (me r) h1 (fun e => h3 (by rw [← e, h2])), ← La_row hab x (me r)]
  refine (sm_mem (f := fun j => La m a b s lv (me r) j * x j) hM.1 (fun j hj hne => ?_)).symm
  by_cases e : sl j = root
  · by_cases e2 : j = root
    · rw [hS.1 j hj (by rw [e, e2])]; grind
    · obtain ⟨k, hk, hkj⟩ := hM.2.2 j hj e e2
      exact absurd hkj (hne k hk)
  · rw [La_apart hI (fun q => e (by rw [← q, h2]))]; grind
theorem Mem.eq {root M : Nat} {me : Nat → Nat} (hI : Isl n m a b lv sl) (hM : Mem n sl root M me) {r c : Nat} (hr : r < M) (hc : c < M) : Am m a b s lv sl (me r) (me c) = La m a b s lv (me r) (me c) := by
  unfold Am
  rw [if_neg (fun e => (hM.2.1 r hr).2 (by rw [← e, (hM.2.1 r hr).1])), if_neg (fun e => (hM.2.1 c hc).2 (by rw [← e, (hM.2.1 c hc).1]))]
theorem Mem.PD {root M : Nat} {me : Nat → Nat} (hI : Isl n m a b lv sl) (hab : ∀ l, l < m → a l < n ∧ b l < n) (hs : ∀ l, l < m → 0 < s l) (hM : Mem n sl root M me) : PD M (fun r c => La m a b s lv (me r) (me c)) := by
  have h := (Am_PD hI hab hs).mem hM.1
  refine ⟨fun i j hi hj => La_symm _ _, fun x hx => ?_⟩
  have h1 := h.2 x hx
  have e : qf M (fun r c => Am m a b s lv sl (me r) (me c)) x = qf M (fun r c => La m a b s lv (me r) (me c)) x := by
    unfold qf
    exact sm_congr (fun r hr => sm_congr (fun c hc => by dsimp only; rw [Mem.eq hI hM hr hc]))
  rw [e] at h1
  exact h1
theorem ab_ds (l i : Nat) : ab (ds a b l i) ≤ (if i = a l then 1 else 0) + (if i = b l then 1 else 0) := by
  unfold ds ab
  (repeat' split) <;> grind
theorem ab_ds1 (l i : Nat) : ab (ds a b l i) ≤ 1 := by
  unfold ds ab
  (repeat' split) <;> grind
theorem sm_const (c : Rat) : ∀ n : Nat, sm (fun _ => c) n = (n : Rat) * c
  | 0 => by show (0 : Rat) = ((0 : Nat) : Rat) * c; grind
  | n + 1 => by rw [sm, sm_const c n]; grind
theorem La_col (hab : ∀ l, l < m → a l < n ∧ b l < n) (hm : m ≤ 10) (hs : ∀ l, l < m → 0 < s l ∧ s l ≤ 5) (j : Nat) : sm (fun i => ab (La m a b s lv i j)) n ≤ 100 := by
  have h1 : sm (fun i => ab (La m a b s lv i j)) n ≤ sm (fun i => sm (fun l => 5 * ab (ds a b l i)) m) n := by
    refine sm_le (fun i hi => ?_)
    have q := ab_sm (fun l => if lv l = true then s l * ds a b l i * ds a b l j else 0) m
    refine Rat.le_trans q (sm_le (fun l hl => ?_))
    split
    · rw [ab_mul, ab_mul]
      have e1 := hs l hl
      have e2 : ab (s l) = s l := by unfold ab; rw [if_neg (by grind)]
      rw [e2]
      have q1 := mul_le2 (a := s l) (b := 5) (c := ab (ds a b l i)) (d := ab (ds a b l i)) e1.2 (Rat.le_refl) (ab_nn _) (by grind)
      have q2 := mul_le2 (a := s l * ab (ds a b l i)) (b := 5 * ab (ds a b l i)) (c := ab (ds a b l j)) (d := 1) q1 (ab_ds1 l j) (ab_nn _) (by have := ab_nn (ds a b l i); grind)
      grind
    · have := ab_nn (ds a b l i)
      have : ab 0 = 0 := by unfold ab; grind
      grind
  rw [sm_comm] at h1
  have h2 : sm (fun l => sm (fun i => 5 * ab (ds a b l i)) n) m ≤ sm (fun _ => 10) m := by
    refine sm_le (fun l hl => ?_)
    rw [sm_mul]
    have q : sm (fun i => ab (ds a b l i)) n ≤ sm (fun i => 1 * (if i = a l then 1 else 0) + 1 * (if i = b l then 1 else 0)) n := sm_le (fun i _ => by have := ab_ds (a := a) (b := b) l i; grind)
    rw [sm_add, sm_pick (y := fun _ => 1) (hab l hl).1, sm_pick (y := fun _ => 1) (hab l hl).2] at q
    grind
  rw [sm_const] at h2
  have h3 : (m : Rat) ≤ 10 := by exact_mod_cast hm
  grind
theorem La_tr (hab : ∀ l, l < m → a l < n ∧ b l < n ∧ a l ≠ b l) (hm : m ≤ 10) (hs : ∀ l, l < m → 0 < s l ∧ s l ≤ 5) : sm (fun i => La m a b s lv i i) n ≤ 100 := by
  unfold La
  rw [sm_comm]
  have h2 : sm (fun l => sm (fun i => if lv l = true then s l * ds a b l i * ds a b l i else 0) n) m ≤ sm (fun _ => 10) m := by
    refine sm_le (fun l hl => ?_)
    obtain ⟨q1, q2, q3⟩ := hab l hl
    have e : sm (fun i => if lv l = true then s l * ds a b l i * ds a b l i else 0) n ≤ sm (fun i => 5 * (if i = a l then 1 else 0) + 5 * (if i = b l then 1 else 0)) n := by
      refine sm_le (fun i _ => ?_)
      have := hs l hl
      unfold ds
      (repeat' split) <;> grind
    rw [sm_add, sm_pick (y := fun _ => 5) q1, sm_pick (y := fun _ => 5) q2] at e
    grind
  rw [sm_const] at h2
  have h3 : (m : Rat) ≤ 10 := by exact_mod_cast hm
  grind
end MemL
theorem amgm2 (x y : Rat) : 4 * (x * y) ≤ (x + y) * (x + y) := by have := sq_nn (x - y); grind
theorem amgm4 {a b c d : Rat} (ha : 0 ≤ a) (hb : 0 ≤ b) (hc : 0 ≤ c) (hd : 0 ≤ d) : 256 * (a * b * c * d) ≤ (a + b + c + d) * (a + b + c + d) * ((a + b + c + d) * (a + b + c + d)) := by
  have h1 := amgm2 a b
  have h2 := amgm2 c d
  have h3 := amgm2 (a + b) (c + d)
  have p1 : 0 ≤ a * b := Rat.mul_nonneg ha hb
  have p2 : 0 ≤ c * d := Rat.mul_nonneg hc hd
  have p3 : 0 ≤ (a + b) * (c + d) := Rat.mul_nonneg (by grind) (by grind)
  have q1 := mul_le2 h1 h2 (by grind) (sq_nn (a + b))
  have q2 := mul_le2 h3 h3 (by grind) (sq_nn (a + b + (c + d)))
  grind
theorem amgm5 {a b c d e : Rat} (ha : 0 ≤ a) (hb : 0 ≤ b) (hc : 0 ≤ c) (hd : 0 ≤ d) (he : 0 ≤ e) (h : a + b + c + d + e ≤ 105) : a * b * c * d * e ≤ 4084101 := by
  have h4 := amgm4 ha hb hc hd
  obtain ⟨S, hS⟩ : ∃ S, S = a + b + c + d := ⟨_, rfl⟩
  rw [← hS] at h4
  have hS0 : 0 ≤ S := by grind
  have hP : 0 ≤ a * b * c * d := Rat.mul_nonneg (Rat.mul_nonneg (Rat.mul_nonneg ha hb) hc) hd
  have hS2 := sq_nn S
  have q1 := mul_le2 h4 (Rat.le_refl (a := e)) he (Rat.mul_nonneg hS2 hS2)
  have q2 := mul_le2 (Rat.le_refl (a := S * S * (S * S))) (show e ≤ 105 - S by grind) he (Rat.mul_nonneg hS2 hS2)
  have hS3 := Rat.mul_nonneg hS2 hS0
  have q3 := Rat.mul_nonneg (sq_nn (S - 84)) (show 0 ≤ S * S * S + 63 * (S * S) + 3528 * S + 148176 by grind)
  grind
theorem pr6 {e : Nat → Rat} {n : Nat} (hn : n ≤ 6) (h0 : e 0 = 1) (hp : ∀ i, i < n → 0 ≤ e i) (hs : sm e n ≤ 106 - (6 - n : Nat)) (hn1 : 1 ≤ n) : pr e n ≤ 4084101 := by
  let g : Nat → Rat := fun i => if i < n then e i else 1
  have hg : ∀ i, 0 ≤ g i := fun i => by show 0 ≤ (if i < n then e i else 1); split; exact hp i (by assumption); grind
  have e1 : ∀ d, pr e n = pr g (n + d) := by
    intro d
    induction d with
    | zero => exact pr_congr (fun k hk => (if_pos hk).symm)
    | succ d ih =>
      rw [ih, show n + (d + 1) = (n + d) + 1 by omega, pr]
      have : g (n + d) = 1 := if_neg (by omega)
      rw [this]; grind
  have e2 : ∀ d, sm g (n + d) = sm e n + (d : Rat) := by
    intro d
    induction d with
    | zero =>
      rw [show n + 0 = n by omega, sm_congr (g := e) (fun k hk => if_pos hk)]
      have : ((0 : Nat) : Rat) = 0 := rfl
      rw [this]; grind
    | succ d ih =>
      rw [show n + (d + 1) = (n + d) + 1 by omega, sm, ih]
      have : g (n + d) = 1 := if_neg (by omega)
      rw [this]
      have : ((d + 1 : Nat) : Rat) = (d : Rat) + 1 := by push_cast; rfl
      rw [this]; grind
  have e3 := e1 (6 - n)
  have e4 := e2 (6 - n)
  rw [show n + (6 - n) = 6 by omega] at e3 e4
  have g0 : g 0 = 1 := by show (if 0 < n then e 0 else 1) = 1; rw [if_pos (by omega), h0]
  rw [e3]
  simp only [pr]
  rw [g0]
  simp only [sm] at e4
  rw [g0] at e4
  have := amgm5 (hg 1) (hg 2) (hg 3) (hg 4) (hg 5) (by grind)
  grind
section BndL
variable {n m : Nat} {a b : Nat → Nat} {s : Nat → Rat} {lv : Nat → Bool} {sl : Nat → Nat}
theorem whole_le (hI : Isl n m a b lv sl) (hn : n ≤ 6) (hn1 : 1 ≤ n) (hm : m ≤ 10) (hab : ∀ l, l < m → a l < n ∧ b l < n ∧ a l ≠ b l) (hs : ∀ l, l < m → 0 < s l ∧ s l ≤ 5) : dt n (Am m a b s lv sl) ≤ 4084101 := by
  have hP := Am_PD hI (fun l hl => ⟨(hab l hl).1, (hab l hl).2.1⟩) (fun l hl => (hs l hl).1)
  have h0 : sl 0 = 0 := by have := (hI.1 0 (by omega)).1; omega
  refine Rat.le_trans (hP.dle (Nat.le_refl n)) (pr6 hn ?_ (fun i hi => ?_) ?_ hn1)
  · show Am m a b s lv sl 0 0 = 1
    unfold Am
    rw [if_pos h0, if_pos rfl]
  · have := hP.diag hi; grind
  · have hL : ∀ i, 0 ≤ La m a b s lv i i := fun i => sm_nn (fun l hl => by
      split
      · have := Rat.mul_nonneg (show 0 ≤ s l by have := hs l hl; grind) (sq_nn (ds a b l i)); grind
      · grind)
    have q : sm (fun i => Am m a b s lv sl i i) n ≤ sm (fun i => La m a b s lv i i + 1) n := sm_le (fun i _ => by
      have := hL i
      unfold Am
      split
      · rw [if_pos rfl]; grind
      · grind)
    rw [sm_add, sm_const] at q
    have t := La_tr (lv := lv) hab hm hs
    have : ((6 - n : Nat) : Rat) = 6 - (n : Rat) := by
      have h : ((6 - n : Nat) : Rat) + (n : Rat) = 6 := by
        rw [show (6 : Rat) = ((6 : Nat) : Rat) from rfl, ← Rat.natCast_add]
        congr 1
        omega
      grind
    rw [this]
    grind
end BndL
