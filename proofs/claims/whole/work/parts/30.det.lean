/-! sums of rationals, and determinants by the first row -/
def sm (f : Nat → Rat) : Nat → Rat
  | 0 => 0
  | n + 1 => sm f n + f n
theorem sm_congr {f g : Nat → Rat} : ∀ {n : Nat}, (∀ k, k < n → f k = g k) → sm f n = sm g n
  | 0, _ => rfl
  | n + 1, h => by rw [sm, sm, sm_congr (fun k hk => h k (Nat.lt_succ_of_lt hk)), h n (Nat.lt_succ_self n)]
theorem sm_add (f g : Nat → Rat) : ∀ n, sm (fun k => f k + g k) n = sm f n + sm g n
  | 0 => by show (0 : Rat) = 0 + 0; grind
  | n + 1 => by rw [sm, sm, sm, sm_add f g n]; grind
theorem sm_mul (c : Rat) (f : Nat → Rat) : ∀ n, sm (fun k => c * f k) n = c * sm f n
  | 0 => by simp [sm]
  | n + 1 => by rw [sm, sm, sm_mul c f n]; grind
theorem sm_zero {f : Nat → Rat} : ∀ {n : Nat}, (∀ k, k < n → f k = 0) → sm f n = 0
  | 0, _ => rfl
  | n + 1, h => by rw [sm, sm_zero (fun k hk => h k (Nat.lt_succ_of_lt hk)), h n (Nat.lt_succ_self n)]; grind
theorem sm_one {f : Nat → Rat} {k : Nat} : ∀ {n : Nat}, k < n → (∀ j, j < n → j ≠ k → f j = 0) → sm f n = f k
  | 0, h, _ => absurd h (Nat.not_lt_zero k)
  | n + 1, h, h0 => by
    rw [sm]
    by_cases e : k = n
    · subst e
      rw [sm_zero (fun j hj => h0 j (Nat.lt_succ_of_lt hj) (Nat.ne_of_lt hj))]
      grind
    · rw [sm_one (n := n) (by omega) (fun j hj hne => h0 j (Nat.lt_succ_of_lt hj) hne), h0 n (Nat.lt_succ_self n) (fun q => e q.symm)]
      grind
theorem sm_two {f : Nat → Rat} {a b : Nat} : ∀ {n : Nat}, a < b → b < n → (∀ j, j < n → j ≠ a → j ≠ b → f j = 0) → sm f n = f a + f b
  | 0, _, h, _ => absurd h (Nat.not_lt_zero b)
  | n + 1, hab, h, h0 => by
    rw [sm]
    by_cases e : b = n
    · subst e
      rw [sm_one hab (fun j hj hne => h0 j (Nat.lt_succ_of_lt hj) hne (Nat.ne_of_lt hj))]
    · rw [sm_two (n := n) hab (by omega) (fun j hj h1 h2 => h0 j (Nat.lt_succ_of_lt hj) h1 h2), h0 n (Nat.lt_succ_self n) (by omega) (fun q => e q.symm)]
      grind
theorem sm_head (f : Nat → Rat) : ∀ n, sm f (n + 1) = f 0 + sm (fun k => f (k + 1)) n
  | 0 => by show (0 : Rat) + f 0 = f 0 + 0; grind
  | n + 1 => by rw [sm, sm_head f n, sm]; grind
theorem sm_comm (f : Nat → Nat → Rat) (n : Nat) : ∀ m, sm (fun i => sm (fun j => f i j) n) m = sm (fun j => sm (fun i => f i j) m) n
  | 0 => by
    rw [sm]
    exact (sm_zero (fun k _ => rfl)).symm
  | m + 1 => by
    rw [sm, sm_comm f n m, ← sm_add]
    exact sm_congr (fun k _ => by rw [sm])
theorem sm_neg (f : Nat → Rat) (n : Nat) : sm (fun k => - f k) n = - sm f n := by
  have h := sm_mul (-1) f n
  rw [show (fun k => -1 * f k) = (fun k => - f k) by funext k; grind] at h
  rw [h]; grind
/-- a triangle, by rows and by columns -/
theorem sm_tri (f : Nat → Nat → Rat) : ∀ n, sm (fun j => sm (fun l => f l j) j) n = sm (fun j => sm (fun l => f j (j + 1 + l)) (n - 1 - j)) n
  | 0 => rfl
  | n + 1 => by
    rw [sm, sm_tri f n, sm]
    have h1 : sm (fun l => f n (n + 1 + l)) (n + 1 - 1 - n) = 0 := by
      rw [show n + 1 - 1 - n = 0 by omega]; rfl
    rw [h1]
    have h2 : sm (fun j => sm (fun l => f j (j + 1 + l)) (n + 1 - 1 - j)) n = sm (fun j => sm (fun l => f j (j + 1 + l)) (n - 1 - j) + f j n) n := by
      refine sm_congr (fun j hj => ?_)
      rw [show n + 1 - 1 - j = (n - 1 - j) + 1 by omega, sm, show j + 1 + (n - 1 - j) = n by omega]
    rw [h2, sm_add]
    grind
def sg (j : Nat) : Rat := if j % 2 = 0 then 1 else -1
theorem sg_succ (j : Nat) : sg (j + 1) = - sg j := by
  unfold sg
  rcases Nat.mod_two_eq_zero_or_one j with h | h
  · rw [if_pos h, if_neg (show ¬ (j + 1) % 2 = 0 by omega)]
  · rw [if_neg (show ¬ j % 2 = 0 by omega), if_pos (show (j + 1) % 2 = 0 by omega)]; grind
theorem sg_sq (j : Nat) : sg j * sg j = 1 := by
  unfold sg
  split <;> grind
theorem sg_0 : sg 0 = 1 := rfl
def sk (j c : Nat) : Nat := if c < j then c else c + 1
theorem sk_ne (j c : Nat) : sk j c ≠ j := by unfold sk; split <;> omega
theorem sk_lt {j c n : Nat} (h : c < n) : sk j c < n + 1 := by unfold sk; split <;> omega
def dt : Nat → (Nat → Nat → Rat) → Rat
  | 0, _ => 1
  | n + 1, M => sm (fun j => sg j * M 0 j * dt n (fun r c => M (r + 1) (sk j c))) (n + 1)
theorem dt_succ (n : Nat) (M : Nat → Nat → Rat) : dt (n + 1) M = sm (fun j => sg j * M 0 j * dt n (fun r c => M (r + 1) (sk j c))) (n + 1) := rfl
theorem dt_congr : ∀ {n : Nat} {M M' : Nat → Nat → Rat}, (∀ r c, r < n → c < n → M r c = M' r c) → dt n M = dt n M'
  | 0, _, _, _ => rfl
  | n + 1, M, M', h => by
    rw [dt_succ, dt_succ]
    refine sm_congr (fun j hj => ?_)
    rw [h 0 j (Nat.succ_pos n) hj, dt_congr (fun r c hr hc => h (r + 1) (sk j c) (Nat.succ_lt_succ hr) (sk_lt hc))]
/-- a column in the place of another -/
def cr (M : Nat → Nat → Rat) (c : Nat) (u : Nat → Rat) : Nat → Nat → Rat := fun r j => if j = c then u r else M r j
def rr (M : Nat → Nat → Rat) (i : Nat) (u : Nat → Rat) : Nat → Nat → Rat := fun r j => if r = i then u j else M r j
def dn (j c : Nat) : Nat := if c < j then c else c - 1
theorem sk_dn {j c : Nat} (h : c ≠ j) : sk j (dn j c) = c := by unfold sk dn; (repeat' split) <;> omega
theorem sk_iff {j c : Nat} (h : c ≠ j) (k : Nat) : sk j k = c ↔ k = dn j c := by unfold sk dn; split <;> split <;> omega
theorem dn_lt {j c n : Nat} (h : c ≠ j) (hj : j < n + 1) (hc : c < n + 1) : dn j c < n := by unfold dn; split <;> omega
theorem cr_minor {M : Nat → Nat → Rat} {c j : Nat} (h : c ≠ j) (u : Nat → Rat) : (fun r k => cr M c u (r + 1) (sk j k)) = cr (fun r k => M (r + 1) (sk j k)) (dn j c) (fun r => u (r + 1)) := by
  funext r k
  unfold cr
  by_cases e : k = dn j c
  · rw [if_pos e, if_pos ((sk_iff h k).mpr e)]
  · rw [if_neg e, if_neg (fun q => e ((sk_iff h k).mp q))]
theorem cr_self {M : Nat → Nat → Rat} {j : Nat} (u : Nat → Rat) : (fun r k => cr M j u (r + 1) (sk j k)) = (fun r k => M (r + 1) (sk j k)) := by
  funext r k
  unfold cr
  rw [if_neg (sk_ne j k)]
theorem dt_lin : ∀ {n : Nat} {M : Nat → Nat → Rat} {c : Nat} {u v : Nat → Rat} (a b : Rat), c < n → dt n (cr M c (fun r => a * u r + b * v r)) = a * dt n (cr M c u) + b * dt n (cr M c v)
  | 0, _, _, _, _, _, _, h => absurd h (Nat.not_lt_zero _)
  | n + 1, M, c, u, v, a, b, h => by
    rw [dt_succ, dt_succ, dt_succ, ← sm_mul, ← sm_mul, ← sm_add]
    refine sm_congr (fun j hj => ?_)
    by_cases e : c = j
    · subst e
      rw [cr_self, cr_self, cr_self]
      simp only [cr, if_pos]
      grind
    · rw [cr_minor e, cr_minor e, cr_minor e, dt_lin a b (dn_lt e hj h)]
      simp only [cr, if_neg (show ¬ j = c from fun q => e q.symm)]
      grind
theorem cr_id (M : Nat → Nat → Rat) (c : Nat) : cr M c (fun r => M r c) = M := by
  funext r j
  unfold cr
  split
  · next h => rw [h]
  · rfl
theorem cr_cr (M : Nat → Nat → Rat) (c : Nat) (u v : Nat → Rat) : cr (cr M c u) c v = cr M c v := by
  funext r j
  unfold cr
  split <;> rfl
theorem cr_comm (M : Nat → Nat → Rat) {c d : Nat} (h : c ≠ d) (u v : Nat → Rat) : cr (cr M c u) d v = cr (cr M d v) c u := by
  funext r j
  unfold cr
  by_cases e : j = d <;> by_cases e2 : j = c <;> simp [e, e2]
  · exact absurd (e2.symm.trans e) h
  · intro q; exact absurd q.symm h
  · intro q; exact absurd q h
theorem dt_adj0 : ∀ {n : Nat} {M : Nat → Nat → Rat} {c : Nat}, c + 1 < n → (∀ r, r < n → M r c = M r (c + 1)) → dt n M = 0
  | 0, _, _, h, _ => absurd h (Nat.not_lt_zero _)
  | n + 1, M, c, h, he => by
    rw [dt_succ, sm_two (a := c) (b := c + 1) (Nat.lt_succ_self c) h (fun j hj h1 h2 => ?_)]
    · have e : dt n (fun r k => M (r + 1) (sk c k)) = dt n (fun r k => M (r + 1) (sk (c + 1) k)) := by
        refine dt_congr (fun r k hr hk => ?_)
        unfold sk
        by_cases q1 : k < c
        · rw [if_pos q1, if_pos (by omega)]
        · rw [if_neg q1]
          by_cases q2 : k = c
          · subst q2
            rw [if_pos (Nat.lt_succ_self k)]
            exact (he (r + 1) (Nat.succ_lt_succ hr)).symm
          · rw [if_neg (by omega)]
      rw [e, he 0 (Nat.succ_pos n), sg_succ]
      grind
    · have h0 : dt n (fun r k => M (r + 1) (sk j k)) = 0 := by
        by_cases q : j < c
        · refine dt_adj0 (c := c - 1) (by omega) (fun r hr => ?_)
          unfold sk
          rw [if_neg (by omega), if_neg (by omega), show c - 1 + 1 = c by omega]
          exact he (r + 1) (Nat.succ_lt_succ hr)
        · refine dt_adj0 (c := c) (by omega) (fun r hr => ?_)
          unfold sk
          rw [if_pos (by omega), if_pos (by omega)]
          exact he (r + 1) (Nat.succ_lt_succ hr)
      rw [h0]
      grind
theorem dt_swapc {n : Nat} {M : Nat → Nat → Rat} {c : Nat} (h : c + 1 < n) (u v : Nat → Rat) : dt n (cr (cr M c u) (c + 1) v) = - dt n (cr (cr M c v) (c + 1) u) := by
  have hne : c ≠ c + 1 := by omega
  have z : ∀ w : Nat → Rat, dt n (cr (cr M c w) (c + 1) w) = 0 := fun w => dt_adj0 h (fun r _ => by simp [cr, hne])
  have h1 := z (fun r => 1 * u r + 1 * v r)
  rw [dt_lin 1 1 h, cr_comm M hne, cr_comm M hne, dt_lin 1 1 (by omega), dt_lin 1 1 (by omega)] at h1
  rw [← cr_comm M hne, ← cr_comm M hne, ← cr_comm M hne, ← cr_comm M hne, z u, z v] at h1
  grind
/-- two columns that are the same -/
theorem dt_same {n : Nat} : ∀ (d a : Nat) {M : Nat → Nat → Rat}, a + d + 1 < n → (∀ r, r < n → M r a = M r (a + d + 1)) → dt n M = 0
  | 0, a, M, h, he => dt_adj0 h he
  | d + 1, a, M, h, he => by
    have h2 := dt_swapc (n := n) (M := M) (c := a + d + 1) (by omega) (fun r => M r (a + d + 1)) (fun r => M r (a + d + 2))
    rw [cr_id, cr_id] at h2
    rw [h2, dt_same d a (by omega) (fun r hr => ?_)]
    · grind
    · unfold cr
      dsimp only
      rw [if_neg (show ¬ a = a + d + 1 + 1 by omega), if_neg (show ¬ a = a + d + 1 by omega), if_neg (show ¬ a + d + 1 = a + d + 1 + 1 by omega), if_pos rfl]
      exact he r hr
theorem dt_eqc {n a b : Nat} {M : Nat → Nat → Rat} (ha : a < n) (hb : b < n) (hne : a ≠ b) (he : ∀ r, r < n → M r a = M r b) : dt n M = 0 := by
  rcases Nat.lt_or_gt_of_ne hne with h | h
  · exact dt_same (b - a - 1) a (by omega) (fun r hr => by rw [show a + (b - a - 1) + 1 = b by omega]; exact he r hr)
  · exact dt_same (a - b - 1) b (by omega) (fun r hr => by rw [show b + (a - b - 1) + 1 = a by omega]; exact (he r hr).symm)
theorem dt_colop {n a b : Nat} {M : Nat → Nat → Rat} (ha : a < n) (hb : b < n) (hne : a ≠ b) (t : Rat) : dt n (cr M b (fun r => M r b + t * M r a)) = dt n M := by
  have h := dt_lin (n := n) (M := M) (c := b) (u := fun r => M r b) (v := fun r => M r a) 1 t hb
  rw [cr_id, dt_eqc (M := cr M b (fun r => M r a)) ha hb hne (fun r _ => by simp [cr, hne])] at h
  rw [show (fun r => 1 * M r b + t * M r a) = (fun r => M r b + t * M r a) by funext r; grind] at h
  rw [h]
  grind
def Sc (M : Nat → Nat → Rat) : Nat → Nat → Rat := fun r c => M (r + 1) (c + 1) - M (r + 1) 0 * M 0 (c + 1) / M 0 0
theorem dt_schur {n : Nat} {M : Nat → Nat → Rat} (hp : M 0 0 ≠ 0) : dt (n + 1) M = M 0 0 * dt n (Sc M) := by
  have key : ∀ t, t ≤ n → dt (n + 1) (fun r c => if 1 ≤ c ∧ c ≤ t then M r c - M 0 c / M 0 0 * M r 0 else M r c) = dt (n + 1) M := by
    intro t
    induction t with
    | zero =>
      intro _
      refine dt_congr (fun r c _ _ => ?_)
      rw [if_neg (by omega)]
    | succ t ih =>
      intro ht
      rw [← ih (by omega)]
      have h := dt_colop (n := n + 1) (a := 0) (b := t + 1) (M := fun r c => if 1 ≤ c ∧ c ≤ t then M r c - M 0 c / M 0 0 * M r 0 else M r c) (by omega) (by omega) (by omega) (-(M 0 (t + 1) / M 0 0))
      rw [← h]
      refine dt_congr (fun r c _ _ => ?_)
      unfold cr
      dsimp only
      by_cases e : c = t + 1
      · subst e
        rw [if_pos (show 1 ≤ t + 1 ∧ t + 1 ≤ t + 1 by omega), if_pos rfl, if_neg (show ¬ (1 ≤ t + 1 ∧ t + 1 ≤ t) by omega), if_neg (show ¬ (1 ≤ 0 ∧ 0 ≤ t) by omega)]
        grind
      · rw [if_neg e]
        by_cases e2 : 1 ≤ c ∧ c ≤ t
        · rw [if_pos e2, if_pos (show 1 ≤ c ∧ c ≤ t + 1 by omega)]
        · rw [if_neg e2, if_neg (show ¬ (1 ≤ c ∧ c ≤ t + 1) by omega)]
  rw [← key n (Nat.le_refl n), dt_succ, sm_one (k := 0) (Nat.succ_pos n) (fun j hj hne => ?_)]
  · rw [if_neg (by omega), sg_0]
    have h : dt n (fun r c => if 1 ≤ sk 0 c ∧ sk 0 c ≤ n then M (r + 1) (sk 0 c) - M 0 (sk 0 c) / M 0 0 * M (r + 1) 0 else M (r + 1) (sk 0 c)) = dt n (Sc M) := by
      refine dt_congr (fun r c _ hc => ?_)
      unfold sk Sc
      rw [if_neg (Nat.not_lt_zero c), if_pos (by omega)]
      grind
    rw [h]
    grind
  · rw [if_pos (by omega)]
    grind
