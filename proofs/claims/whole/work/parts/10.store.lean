/-! THE TYPED STORE: every cell of the two systems has an id; what changes is a pair of functions -/
abbrev St : Type := (Nat → Nat → Int32) × (Nat → Nat → Int64)
def sI (σ : St) (i k : Nat) (v : Int32) : St := (fun j => if j = i then upd (σ.1 i) k v else σ.1 j, σ.2)
def sL (σ : St) (i k : Nat) (v : Int64) : St := (σ.1, fun j => if j = i then vp_updL (σ.2 i) k v else σ.2 j)
abbrev cl7 : List vw_C := [(RX0, TX0, 8), (RX1, TX1, 3), (RX2, TX2, 5), (RX3, TX3, 5), (RX4, TX4, 12), (RX5, TX5, 8), (RX6, TX6, 28)]
/-- kinds: (0, class, field codes: 0 int, 1 long, n + 2 the cell n), (1, n) ints, (2, n) longs, (3, n) booleans, (4, n, [b, d]) references b + d * (k + 1) -/
abbrev Kd : Type := Nat × Nat × List Nat
def kdC : List Kd := [(0, 5, [26, 3, 5, 8, 21, 0, 0, 0]), (0, 1, [4, 0, 0]), (4, 8, [24, 7]), (0, 3, [6, 7, 0, 0, 0]), (1, 120, []), (1, 4, []), (0, 4, [26, 9, 10, 11, 18, 19, 20, 1, 0, 1, 1, 0]), (3, 10, []), (1, 6, []), (4, 6, [9, 1]), (2, 8, []), (2, 8, []), (2, 8, []), (2, 8, []), (2, 8, []), (2, 8, []), (2, 6, []), (2, 10, []), (2, 10, []), (0, 2, [22, 23, 24, 25, 0]), (1, 45, []), (1, 45, []), (2, 45, []), (2, 45, [])]
def kdM : List Kd := [(0, 6, [90, 91, 92, 0, 93, 94, 0, 0, 95, 96, 97, 98, 99, 100, 0, 0, 1, 1, 0, 101, 102, 103, 104, 0, 0, 105, 106, 107]), (1, 58, []), (1, 464, []), (1, 58, []), (1, 3, []), (1, 120, []), (2, 6, []), (1, 6, []), (2, 6, []), (2, 6, []), (2, 36, []), (1, 6, []), (1, 45, []), (1, 45, []), (2, 45, []), (2, 45, []), (2, 10, []), (1, 64, []), (1, 4, [])]
def kdG (b : Nat) : Nat → Kd
  | 0 => (0, 0, [b + 3, b + 4, b + 5, b + 6, b + 7, b + 8, 0, 0])
  | 1 => (1, 6, [])
  | 6 => (3, 10, [])
  | _ => (1, 10, [])
def kd (i : Nat) : Kd := if i < 24 then kdC.getD i (9, 0, []) else if i < 87 then kdG (24 + 7 * ((i - 24) / 7)) ((i - 24) % 7) else kdM.getD (i - 87) (9, 0, [])
abbrev nW : Nat := 106
theorem kd_g0 {γ : Nat} (h : γ < 9) : kd (24 + 7 * γ) = (0, 0, [24 + 7 * γ + 3, 24 + 7 * γ + 4, 24 + 7 * γ + 5, 24 + 7 * γ + 6, 24 + 7 * γ + 7, 24 + 7 * γ + 8, 0, 0]) := by
  match γ, h with
  | 0, _ => rfl
  | 1, _ => rfl
  | 2, _ => rfl
  | 3, _ => rfl
  | 4, _ => rfl
  | 5, _ => rfl
  | 6, _ => rfl
  | 7, _ => rfl
  | 8, _ => rfl
theorem kd_ga {γ r : Nat} (h : γ < 9) (h1 : 1 ≤ r) (h2 : r < 7) : kd (24 + 7 * γ + r) = kdG 0 r := by
  unfold kd
  rw [if_neg (by omega), if_pos (by omega), show (24 + 7 * γ + r - 24) % 7 = r by omega]
  match r, h1, h2 with
  | 1, _, _ => rfl
  | 2, _, _ => rfl
  | 3, _, _ => rfl
  | 4, _, _ => rfl
  | 5, _, _ => rfl
  | 6, _, _ => rfl
theorem kd_row {k : Nat} (h : k < 6) : kd (9 + 1 * (k + 1)) = (2, 8, []) := by
  match k, h with
  | 0, _ => rfl
  | 1, _ => rfl
  | 2, _ => rfl
  | 3, _ => rfl
  | 4, _ => rfl
  | 5, _ => rfl
/-- abstract values: a reference is an id -/
def cvv (ad : Nat → Nat) : Value → Value
  | .ref i => .ref (ad i)
  | v => v
theorem cvv_cat (ad : Nat → Nat) (v : Value) : (cvv ad v).category = v.category := by cases v <;> rfl
def fl (ad : Nat → Nat) (f : Nat → Int32) (g : Nat → Int64) : Nat → List Nat → List Value
  | _, [] => []
  | k, 0 :: t => .int (f k) :: fl ad f g (k + 1) t
  | k, 1 :: t => .long (g k) :: fl ad f g (k + 1) t
  | k, (n + 2) :: t => .ref (ad n) :: fl ad f g (k + 1) t
def mkC (ad : Nat → Nat) (cA : Nat → ClassId) (j : Nat) (q : Kd) (f : Nat → Int32) (g : Nat → Int64) : va_E :=
  match q with
  | (0, n, fs) => .inr (n, fl ad f g 0 fs)
  | (1, n, _) => .inl (cA j, n, .inl f)
  | (2, n, _) => .inl (cA j, n, .inr (.inl g))
  | (3, n, _) => .inl (cA j, n, .inl f)
  | (_, n, fs) => .inl (cA j, n, .inr (.inr (.inr (.inr (fun k => some (ad (fs.getD 0 0 + fs.getD 1 0 * (k + 1))))))))
def ceO (ad : Nat → Nat) (cA : Nat → ClassId) (σ : St) (j : Nat) : va_E := mkC ad cA j (kd j) (σ.1 j) (σ.2 j)
def wS (ad : Nat → Nat) (cA : Nat → ClassId) (σ : St) : va_W := (List.range nW).map (fun j => (ad j, ceO ad cA σ j))
theorem wS_get {ad : Nat → Nat} {cA : Nat → ClassId} {σ : St} {j : Nat} (h : j < nW) : (wS ad cA σ)[j]? = some (ad j, ceO ad cA σ j) := by
  unfold wS
  rw [List.getElem?_map, List.getElem?_range h]
  rfl
theorem wS_out {ad : Nat → Nat} {cA : Nat → ClassId} {σ : St} {j : Nat} {q : Nat × va_E} (h : (wS ad cA σ)[j]? = some q) : j < nW ∧ q = (ad j, ceO ad cA σ j) := by
  have hl : j < (wS ad cA σ).length := (List.getElem?_eq_some_iff.mp h).1
  have h1 : j < nW := by simpa [wS] using hl
  exact ⟨h1, (Option.some.inj ((wS_get h1).symm.trans h)).symm⟩
theorem wS_set {ad : Nat → Nat} {cA : Nat → ClassId} {σ σ' : St} {i : Nat} {x : va_E} (hi : i < nW) (hx : ceO ad cA σ' i = x) (ho : ∀ j, j ≠ i → σ'.1 j = σ.1 j ∧ σ'.2 j = σ.2 j) : (wS ad cA σ).set i (ad i, x) = wS ad cA σ' := by
  apply List.ext_getElem?
  intro j
  rw [List.getElem?_set]
  by_cases h : i = j
  · subst h
    rw [if_pos rfl, wS_get hi, hx]
    simp [wS, hi]
  · rw [if_neg h]
    by_cases hj : j < nW
    · rw [wS_get hj, wS_get hj]
      unfold ceO
      rw [(ho j (fun e => h e.symm)).1, (ho j (fun e => h e.symm)).2]
    · have h1 : (wS ad cA σ)[j]? = none := List.getElem?_eq_none (by simpa [wS] using Nat.not_lt.mp hj)
      have h2 : (wS ad cA σ')[j]? = none := List.getElem?_eq_none (by simpa [wS] using Nat.not_lt.mp hj)
      rw [h1, h2]
theorem sI_same (σ : St) (i k : Nat) (v : Int32) : (sI σ i k v).1 i = upd (σ.1 i) k v := if_pos rfl
theorem sI_ne (σ : St) {i j : Nat} (k : Nat) (v : Int32) (h : j ≠ i) : (sI σ i k v).1 j = σ.1 j := if_neg h
theorem sL_same (σ : St) (i k : Nat) (v : Int64) : (sL σ i k v).2 i = vp_updL (σ.2 i) k v := if_pos rfl
theorem sL_ne (σ : St) {i j : Nat} (k : Nat) (v : Int64) (h : j ≠ i) : (sL σ i k v).2 j = σ.2 j := if_neg h
theorem fl_len (ad : Nat → Nat) (f : Nat → Int32) (g : Nat → Int64) : ∀ (fs : List Nat) (k : Nat), (fl ad f g k fs).length = fs.length
  | [], _ => rfl
  | 0 :: t, k => by simp [fl, fl_len ad f g t]
  | 1 :: t, k => by simp [fl, fl_len ad f g t]
  | (n + 2) :: t, k => by simp [fl, fl_len ad f g t]
theorem fl_getI {ad : Nat → Nat} {f : Nat → Int32} {g : Nat → Int64} : ∀ {fs : List Nat} {k k0 : Nat}, fs[k]? = some 0 → (fl ad f g k0 fs)[k]? = some (.int (f (k0 + k)))
  | [], _, _, h => by cases h
  | x :: t, 0, k0, h => by
    cases h
    rfl
  | x :: t, k + 1, k0, h => by
    have h2 : (fl ad f g (k0 + 1) t)[k]? = some (.int (f (k0 + 1 + k))) := fl_getI (by simpa using h)
    rw [show k0 + (k + 1) = k0 + 1 + k by omega]
    match x with
    | 0 => exact h2
    | 1 => exact h2
    | n + 2 => exact h2
theorem fl_getL {ad : Nat → Nat} {f : Nat → Int32} {g : Nat → Int64} : ∀ {fs : List Nat} {k k0 : Nat}, fs[k]? = some 1 → (fl ad f g k0 fs)[k]? = some (.long (g (k0 + k)))
  | [], _, _, h => by cases h
  | x :: t, 0, k0, h => by
    cases h
    rfl
  | x :: t, k + 1, k0, h => by
    have h2 : (fl ad f g (k0 + 1) t)[k]? = some (.long (g (k0 + 1 + k))) := fl_getL (by simpa using h)
    rw [show k0 + (k + 1) = k0 + 1 + k by omega]
    match x with
    | 0 => exact h2
    | 1 => exact h2
    | n + 2 => exact h2
theorem fl_getR {ad : Nat → Nat} {f : Nat → Int32} {g : Nat → Int64} : ∀ {fs : List Nat} {k k0 n : Nat}, fs[k]? = some (n + 2) → (fl ad f g k0 fs)[k]? = some (.ref (ad n))
  | [], _, _, _, h => by cases h
  | x :: t, 0, k0, n, h => by
    cases h
    rfl
  | x :: t, k + 1, k0, n, h => by
    have h2 : (fl ad f g (k0 + 1) t)[k]? = some (.ref (ad n)) := fl_getR (by simpa using h)
    match x with
    | 0 => exact h2
    | 1 => exact h2
    | n + 2 => exact h2
theorem fl_setI {ad : Nat → Nat} {f : Nat → Int32} {g : Nat → Int64} {v : Int32} : ∀ {fs : List Nat} {k k0 : Nat}, fs[k]? = some 0 → (fl ad f g k0 fs).set k (.int v) = fl ad (upd f (k0 + k) v) g k0 fs := by
  intro fs
  have frame : ∀ (t : List Nat) (k0 k1 : Nat), k1 < k0 → fl ad (upd f k1 v) g k0 t = fl ad f g k0 t := by
    intro t
    induction t with
    | nil => intro _ _ _; rfl
    | cons x t ih =>
      intro k0 k1 h
      match x with
      | 0 => simp only [fl, ih (k0 + 1) k1 (by omega), upd, if_neg (show ¬ k0 = k1 by omega)]
      | 1 => simp only [fl, ih (k0 + 1) k1 (by omega)]
      | n + 2 => simp only [fl, ih (k0 + 1) k1 (by omega)]
  induction fs with
  | nil => intro k k0 h; cases h
  | cons x t ih =>
    intro k k0 h
    match k with
    | 0 =>
      cases h
      simp only [fl, List.set_cons_zero, Nat.add_zero, frame t (k0 + 1) k0 (by omega), upd, if_pos]
    | k + 1 =>
      have h2 := ih (k := k) (k0 := k0 + 1) (by simpa using h)
      rw [show k0 + (k + 1) = k0 + 1 + k by omega]
      match x with
      | 0 => simp only [fl, List.set_cons_succ, h2, upd, if_neg (show ¬ k0 = k0 + 1 + k by omega)]
      | 1 => simp only [fl, List.set_cons_succ, h2]
      | n + 2 => simp only [fl, List.set_cons_succ, h2]
theorem fl_setL {ad : Nat → Nat} {f : Nat → Int32} {g : Nat → Int64} {v : Int64} : ∀ {fs : List Nat} {k k0 : Nat}, fs[k]? = some 1 → (fl ad f g k0 fs).set k (.long v) = fl ad f (vp_updL g (k0 + k) v) k0 fs := by
  intro fs
  have frame : ∀ (t : List Nat) (k0 k1 : Nat), k1 < k0 → fl ad f (vp_updL g k1 v) k0 t = fl ad f g k0 t := by
    intro t
    induction t with
    | nil => intro _ _ _; rfl
    | cons x t ih =>
      intro k0 k1 h
      match x with
      | 0 => simp only [fl, ih (k0 + 1) k1 (by omega)]
      | 1 => simp only [fl, ih (k0 + 1) k1 (by omega), vp_updL, if_neg (show ¬ k0 = k1 by omega)]
      | n + 2 => simp only [fl, ih (k0 + 1) k1 (by omega)]
  induction fs with
  | nil => intro k k0 h; cases h
  | cons x t ih =>
    intro k k0 h
    match k with
    | 0 =>
      cases h
      simp only [fl, List.set_cons_zero, Nat.add_zero, frame t (k0 + 1) k0 (by omega), vp_updL, if_pos]
    | k + 1 =>
      have h2 := ih (k := k) (k0 := k0 + 1) (by simpa using h)
      rw [show k0 + (k + 1) = k0 + 1 + k by omega]
      match x with
      | 0 => simp only [fl, List.set_cons_succ, h2]
      | 1 => simp only [fl, List.set_cons_succ, h2, vp_updL, if_neg (show ¬ k0 = k0 + 1 + k by omega)]
      | n + 2 => simp only [fl, List.set_cons_succ, h2]
