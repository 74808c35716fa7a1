/-! determinants: rows, Cramer, bordered minors -/
theorem rr_minor {M : Nat → Nat → Rat} {i : Nat} (u : Nat → Rat) (j : Nat) : (fun r k => rr M (i + 1) u (r + 1) (sk j k)) = rr (fun r k => M (r + 1) (sk j k)) i (fun k => u (sk j k)) := by
  funext r k
  unfold rr
  by_cases e : r = i
  · rw [if_pos e, if_pos (by omega)]
  · rw [if_neg e, if_neg (by omega)]
theorem dt_linr : ∀ {n : Nat} {M : Nat → Nat → Rat} {i : Nat} {u v : Nat → Rat} (a b : Rat), i < n → dt n (rr M i (fun c => a * u c + b * v c)) = a * dt n (rr M i u) + b * dt n (rr M i v)
  | 0, _, _, _, _, _, _, h => absurd h (Nat.not_lt_zero _)
  | n + 1, M, 0, u, v, a, b, h => by
    rw [dt_succ, dt_succ, dt_succ, ← sm_mul, ← sm_mul, ← sm_add]
    refine sm_congr (fun j hj => ?_)
    have e : ∀ w : Nat → Rat, (fun r c => rr M 0 w (r + 1) (sk j c)) = (fun r c => M (r + 1) (sk j c)) := by
      intro w
      funext r c
      unfold rr
      rw [if_neg (by omega)]
    rw [e, e, e]
    simp only [rr, if_pos]
    grind
  | n + 1, M, i + 1, u, v, a, b, h => by
    rw [dt_succ, dt_succ, dt_succ, ← sm_mul, ← sm_mul, ← sm_add]
    refine sm_congr (fun j hj => ?_)
    rw [rr_minor, rr_minor, rr_minor, dt_linr a b (by omega)]
    simp only [rr, if_neg (show ¬ 0 = i + 1 by omega)]
    grind
/-- the first two rows are the same -/
theorem dt_r01 {n : Nat} {M : Nat → Nat → Rat} (he : ∀ c, c < n + 2 → M 0 c = M 1 c) : dt (n + 2) M = 0 := by
  let w : Nat → Nat → Rat := fun a b => sg a * sg b * (M 0 a * M 0 b) * dt n (fun r c => M (r + 2) (sk b (sk a c)))
  have hw : ∀ j l, j < n + 2 → l < n + 1 → sg j * M 0 j * (sg l * M 1 (sk j l) * dt n (fun r c => M (r + 2) (sk j (sk l c)))) = if l < j then w l j else - w j (l + 1) := by
    intro j l hj hl
    by_cases h : l < j
    · rw [if_pos h]
      have e1 : sk j l = l := by unfold sk; rw [if_pos h]
      rw [e1, ← he l (by omega)]
      show _ = sg l * sg j * (M 0 l * M 0 j) * dt n (fun r c => M (r + 2) (sk j (sk l c)))
      grind
    · rw [if_neg h]
      have e1 : sk j l = l + 1 := by unfold sk; rw [if_neg h]
      rw [e1, ← he (l + 1) (by omega)]
      have e2 : (fun r c => M (r + 2) (sk j (sk l c))) = (fun r c => M (r + 2) (sk (l + 1) (sk j c))) := by
        funext r c
        congr 1
        unfold sk
        (repeat' split) <;> omega
      rw [e2]
      show _ = - (sg j * sg (l + 1) * (M 0 j * M 0 (l + 1)) * dt n (fun r c => M (r + 2) (sk (l + 1) (sk j c))))
      rw [sg_succ]
      grind
  have h1 : dt (n + 2) M = sm (fun j => sm (fun l => if l < j then w l j else - w j (l + 1)) (n + 1)) (n + 2) := by
    rw [dt_succ]
    refine sm_congr (fun j hj => ?_)
    rw [dt_succ, ← sm_mul]
    refine sm_congr (fun l hl => ?_)
    exact hw j l hj hl
  have split : ∀ (j N : Nat) (f g : Nat → Rat), j ≤ N → sm (fun l => if l < j then f l else g l) N = sm f j + sm (fun l => g (j + l)) (N - j) := by
    intro j N f g
    induction N with
    | zero =>
      intro h
      have : j = 0 := by omega
      subst this
      show (0 : Rat) = 0 + 0
      grind
    | succ N ih =>
      intro h
      by_cases e : j = N + 1
      · subst e
        rw [show N + 1 - (N + 1) = 0 by omega, sm_congr (g := f) (fun k hk => if_pos hk)]
        show _ = sm f (N + 1) + 0
        grind
      · rw [sm, ih (by omega), if_neg (by omega), show N + 1 - j = (N - j) + 1 by omega, sm, show j + (N - j) = N by omega]
        grind
  rw [h1]
  have h2 : sm (fun j => sm (fun l => if l < j then w l j else - w j (l + 1)) (n + 1)) (n + 2) = sm (fun j => sm (fun l => w l j) j + - sm (fun l => w j (j + 1 + l)) (n + 2 - 1 - j)) (n + 2) := by
    refine sm_congr (fun j hj => ?_)
    rw [split j (n + 1) (fun l => w l j) (fun l => - w j (l + 1)) (by omega), ← sm_neg, show n + 2 - 1 - j = n + 1 - j by omega]
    congr 1
    exact sm_congr (fun l _ => by rw [show j + l + 1 = j + 1 + l by omega])
  rw [h2, sm_add, sm_neg, sm_tri w (n + 2)]
  grind
theorem dt_radj : ∀ {n i : Nat} {M : Nat → Nat → Rat}, i + 1 < n → (∀ c, c < n → M i c = M (i + 1) c) → dt n M = 0
  | 0, _, _, h, _ => absurd h (Nat.not_lt_zero _)
  | 1, _, _, h, _ => absurd h (by omega)
  | n + 2, 0, M, h, he => dt_r01 he
  | n + 2, i + 1, M, h, he => by
    rw [dt_succ]
    refine sm_zero (fun j hj => ?_)
    rw [dt_radj (n := n + 1) (i := i) (by omega) (fun c hc => he (sk j c) (sk_lt hc))]
    grind
theorem rr_id (M : Nat → Nat → Rat) (i : Nat) : rr M i (fun c => M i c) = M := by
  funext r j
  unfold rr
  split
  · next h => rw [h]
  · rfl
theorem rr_comm (M : Nat → Nat → Rat) {c d : Nat} (h : c ≠ d) (u v : Nat → Rat) : rr (rr M c u) d v = rr (rr M d v) c u := by
  funext r j
  unfold rr
  by_cases e : r = d <;> by_cases e2 : r = c <;> simp [e, e2]
  · exact absurd (e2.symm.trans e) h
  · intro q; exact absurd q.symm h
  · intro q; exact absurd q h
/-- rows i and j change places -/
def sw (M : Nat → Nat → Rat) (i j : Nat) : Nat → Nat → Rat := fun r c => M (if r = i then j else if r = j then i else r) c
theorem dt_swadj {n i : Nat} {M : Nat → Nat → Rat} (h : i + 1 < n) : dt n (sw M i (i + 1)) = - dt n M := by
  have hne : i ≠ i + 1 := by omega
  have z : ∀ w : Nat → Rat, dt n (rr (rr M i w) (i + 1) w) = 0 := fun w => dt_radj h (fun r _ => by simp [rr, hne])
  have h1 := z (fun c => 1 * M i c + 1 * M (i + 1) c)
  rw [dt_linr 1 1 h, rr_comm M hne, rr_comm M hne, dt_linr 1 1 (by omega), dt_linr 1 1 (by omega)] at h1
  rw [← rr_comm M hne, ← rr_comm M hne, ← rr_comm M hne, ← rr_comm M hne, z, z] at h1
  have e1 : rr (rr M i (fun c => M i c)) (i + 1) (fun c => M (i + 1) c) = M := by rw [rr_id, rr_id]
  have e2 : rr (rr M i (fun c => M (i + 1) c)) (i + 1) (fun c => M i c) = sw M i (i + 1) := by
    funext r c
    unfold rr sw
    by_cases q : r = i + 1
    · rw [if_pos q, if_neg (by omega), if_pos q]
    · rw [if_neg q]
      by_cases q2 : r = i
      · rw [if_pos q2, if_pos q2]
      · rw [if_neg q2, if_neg q2, if_neg q]
  rw [e1, e2] at h1
  grind
theorem dt_sw {n : Nat} : ∀ (d i : Nat) (M : Nat → Nat → Rat), i + d + 1 < n → dt n (sw M i (i + d + 1)) = - dt n M
  | 0, i, M, h => dt_swadj h
  | d + 1, i, M, h => by
    have e : sw M i (i + (d + 1) + 1) = sw (sw (sw M (i + d + 1) (i + d + 1 + 1)) i (i + d + 1)) (i + d + 1) (i + d + 1 + 1) := by
      funext r c
      unfold sw
      congr 1
      (repeat' split) <;> omega
    rw [e, dt_swadj (by omega), dt_sw d i _ (by omega), dt_swadj (by omega)]
    grind
theorem dt_swap {n i j : Nat} (M : Nat → Nat → Rat) (hij : i < j) (hj : j < n) : dt n (sw M i j) = - dt n M := by
  have h := dt_sw (n := n) (j - i - 1) i M (by omega)
  rw [show i + (j - i - 1) + 1 = j by omega] at h
  exact h
/-- Cramer -/
theorem dt_lins {n k : Nat} {M : Nat → Nat → Rat} (hk : k < n) (x : Nat → Rat) (U : Nat → Nat → Rat) : ∀ m, dt n (cr M k (fun r => sm (fun j => U r j * x j) m)) = sm (fun j => x j * dt n (cr M k (fun r => U r j))) m
  | 0 => by
    have h := dt_lin (n := n) (M := M) (c := k) (u := fun _ => 0) (v := fun _ => 0) 0 0 hk
    rw [show (fun r : Nat => sm (fun j => U r j * x j) 0) = (fun _ : Nat => (0 : Rat) * 0 + 0 * 0) by funext r; show (0 : Rat) = _; grind, h]
    show _ = (0 : Rat)
    grind
  | m + 1 => by
    have h := dt_lin (n := n) (M := M) (c := k) (u := fun r => sm (fun j => U r j * x j) m) (v := fun r => U r m) 1 (x m) hk
    rw [show (fun r : Nat => sm (fun j => U r j * x j) (m + 1)) = (fun r : Nat => 1 * sm (fun j => U r j * x j) m + x m * U r m) by funext r; rw [sm]; grind, h, dt_lins hk x U m, sm]
    grind
theorem dt_cramer {n k : Nat} {M : Nat → Nat → Rat} {x b : Nat → Rat} (hk : k < n) (hx : ∀ r, r < n → sm (fun j => M r j * x j) n = b r) : dt n (cr M k b) = x k * dt n M := by
  have h : dt n (cr M k b) = dt n (cr M k (fun r => sm (fun j => M r j * x j) n)) := dt_congr (fun r c hr _ => by unfold cr; split; exact (hx r hr).symm; rfl)
  rw [h, dt_lins hk x M n, sm_one hk (fun j hj hne => ?_), cr_id]
  rw [dt_eqc hj hk hne (fun r _ => by simp [cr, hne])]
  grind
/-- leading minors that are not 0: there is a solution -/
theorem dt_solve : ∀ {n : Nat} {M : Nat → Nat → Rat} (b : Nat → Rat), (∀ t, 1 ≤ t → t ≤ n → dt t M ≠ 0) → ∃ x : Nat → Rat, ∀ r, r < n → sm (fun j => M r j * x j) n = b r
  | 0, _, _, _ => ⟨fun _ => 0, fun r h => absurd h (Nat.not_lt_zero r)⟩
  | n + 1, M, b, h => by
    have hp : M 0 0 ≠ 0 := by
      have h1 := h 1 (Nat.le_refl 1) (by omega)
      intro q
      refine h1 ?_
      rw [dt_succ, sm, q]
      show (0 : Rat) + sg 0 * 0 * _ = 0
      grind
    obtain ⟨y, hy⟩ := dt_solve (n := n) (M := Sc M) (fun r => b (r + 1) - M (r + 1) 0 * b 0 / M 0 0) (fun t h1 h2 q => h (t + 1) (by omega) (by omega) (by rw [dt_schur hp, q]; grind))
    refine ⟨fun j => match j with | 0 => (b 0 - sm (fun j => M 0 (j + 1) * y j) n) / M 0 0 | j + 1 => y j, fun r hr => ?_⟩
    rw [sm_head]
    dsimp only
    match r, hr with
    | 0, _ => grind
    | r + 1, hr =>
      have h3 := hy r (by omega)
      have h4 : sm (fun j => Sc M r j * y j) n = sm (fun j => M (r + 1) (j + 1) * y j) n + (- (M (r + 1) 0 / M 0 0)) * sm (fun j => M 0 (j + 1) * y j) n := by
        rw [← sm_mul, ← sm_add]
        refine sm_congr (fun j _ => ?_)
        unfold Sc
        grind
      rw [h4] at h3
      grind
/-- the bordered minor: the first k rows and columns, and row i, column j -/
def bm (M : Nat → Nat → Rat) (k i j : Nat) : Rat := dt (k + 1) (fun r c => M (if r < k then r else i) (if c < k then c else j))
theorem bm_lead (M : Nat → Nat → Rat) (k : Nat) : bm M k k k = dt (k + 1) M := dt_congr (fun r c hr hc => by
  by_cases h1 : r < k <;> by_cases h2 : c < k
  · rw [if_pos h1, if_pos h2]
  · rw [if_pos h1, if_neg h2, show c = k by omega]
  · rw [if_neg h1, if_pos h2, show r = k by omega]
  · rw [if_neg h1, if_neg h2, show c = k by omega, show r = k by omega])
theorem dt_1 (M : Nat → Nat → Rat) : dt 1 M = M 0 0 := by
  rw [dt_succ, sm]
  show (0 : Rat) + 1 * M 0 0 * 1 = M 0 0
  grind
theorem bm_0 (M : Nat → Nat → Rat) (i j : Nat) : bm M 0 i j = M i j := by
  unfold bm
  rw [dt_1]
  rfl
theorem bm_schur {M : Nat → Nat → Rat} (hp : M 0 0 ≠ 0) (k i j : Nat) : bm M (k + 1) (i + 1) (j + 1) = M 0 0 * bm (Sc M) k i j := by
  unfold bm
  rw [dt_schur (M := fun r c => M (if r < k + 1 then r else i + 1) (if c < k + 1 then c else j + 1)) (by rw [if_pos (by omega), if_pos (by omega)]; exact hp)]
  rw [if_pos (show 0 < k + 1 by omega), if_pos (show 0 < k + 1 by omega)]
  congr 1
  refine dt_congr (fun r c hr hc => ?_)
  unfold Sc
  dsimp only
  rw [if_pos (show 0 < k + 1 by omega), if_pos (show 0 < k + 1 by omega)]
  rw [show (if r + 1 < k + 1 then r + 1 else i + 1) = (if r < k then r else i) + 1 by split <;> split <;> omega]
  rw [show (if c + 1 < k + 1 then c + 1 else j + 1) = (if c < k then c else j) + 1 by split <;> split <;> omega]
/-- Bareiss' step -/
theorem bm_step : ∀ {k : Nat} {M : Nat → Nat → Rat} {i j : Nat}, k < i → k < j → (∀ t, 1 ≤ t → t ≤ k → dt t M ≠ 0) → bm M (k + 1) i j * dt k M = dt (k + 1) M * bm M k i j - bm M k i k * bm M k k j
  | 0, M, i, j, hi, hj, _ => by
    rw [bm_0, bm_0, bm_0, dt_1]
    unfold bm
    rw [dt_succ, sm, sm, sm]
    rw [dt_1, dt_1]
    show ((0 : Rat) + sg 0 * M 0 0 * M i (if sk 0 0 < 1 then _ else _) + sg 1 * M 0 j * M i (if sk 1 0 < 1 then _ else _)) * 1 = _
    rw [if_neg (show ¬ sk 0 0 < 1 by decide), if_pos (show sk 1 0 < 1 by decide), show sk 1 0 = 0 by decide, sg_0, show sg 1 = -1 by rfl]
    grind
  | k + 1, M, i, j, hi, hj, h => by
    have hp : M 0 0 ≠ 0 := by
      have h1 := h 1 (Nat.le_refl 1) (by omega)
      rw [dt_1] at h1
      exact h1
    obtain ⟨i, rfl⟩ : ∃ i', i = i' + 1 := ⟨i - 1, by omega⟩
    obtain ⟨j, rfl⟩ : ∃ j', j = j' + 1 := ⟨j - 1, by omega⟩
    rw [bm_schur hp, bm_schur hp, bm_schur hp, bm_schur hp, dt_schur hp, dt_schur hp]
    have ih := bm_step (k := k) (M := Sc M) (i := i) (j := j) (by omega) (by omega) (fun t h1 h2 q => h (t + 1) (by omega) (by omega) (by rw [dt_schur hp, q]; grind))
    grind
/-- Gauss-Jordan above the pivot: the leading block with column i replaced by column c -/
def ej (M : Nat → Nat → Rat) (k i c : Nat) : Rat := dt k (cr M i (fun r => M r c))
theorem ej_new (M : Nat → Nat → Rat) (k c : Nat) : ej M (k + 1) k c = bm M k k c := dt_congr (fun r d hr hd => by
  unfold cr
  by_cases e : d = k
  · rw [if_pos e, if_neg (show ¬ d < k by omega)]
    by_cases e2 : r < k
    · rw [if_pos e2]
    · rw [if_neg e2, show r = k by omega]
  · rw [if_neg e, if_pos (show d < k by omega)]
    by_cases e2 : r < k
    · rw [if_pos e2]
    · rw [if_neg e2, show r = k by omega])
theorem ej_step {k : Nat} {M : Nat → Nat → Rat} {i c : Nat} (hi : i < k) (h : ∀ t, 1 ≤ t → t ≤ k + 1 → dt t M ≠ 0) : ej M (k + 1) i c * dt k M = dt (k + 1) M * ej M k i c - ej M k i k * bm M k k c := by
  obtain ⟨x, hx⟩ := dt_solve (n := k) (M := M) (fun r => M r c) (fun t h1 h2 => h t h1 (by omega))
  obtain ⟨y, hy⟩ := dt_solve (n := k) (M := M) (fun r => M r k) (fun t h1 h2 => h t h1 (by omega))
  obtain ⟨z, hz⟩ := dt_solve (n := k + 1) (M := M) (fun r => M r c) h
  have e1 : ej M k i c = x i * dt k M := dt_cramer hi hx
  have e2 : ej M k i k = y i * dt k M := dt_cramer hi hy
  have e3 : ej M (k + 1) i c = z i * dt (k + 1) M := dt_cramer (Nat.lt_succ_of_lt hi) hz
  have e4 : bm M k k c = z k * dt (k + 1) M := by rw [← ej_new]; exact dt_cramer (Nat.lt_succ_self k) hz
  have e5 : x i * dt k M = (z i + y i * z k) * dt k M := by
    rw [← e1]
    refine dt_cramer (x := fun j => z j + y j * z k) hi (fun r hr => ?_)
    have q := hz r (by omega)
    rw [sm] at q
    rw [← q, ← hy r hr]
    have : sm (fun j => M r j * (z j + y j * z k)) k = sm (fun j => M r j * z j) k + z k * sm (fun j => M r j * y j) k := by
      rw [← sm_mul, ← sm_add]
      exact sm_congr (fun j _ => by grind)
    rw [this]
    grind
  rw [e1, e2, e3, e4]
  grind
