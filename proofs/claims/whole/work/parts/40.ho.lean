/-! pure functions: it answers, and so -/
def Ho {α : Type} (x : Option α) (P : α → Prop) : Prop := ∃ a, x = some a ∧ P a
theorem ho_some {α : Type} {a : α} {P : α → Prop} (h : P a) : Ho (some a) P := ⟨a, rfl, h⟩
theorem ho_chk {α : Type} {b : Bool} {x : Option α} {P : α → Prop} (hb : b = true) (h : Ho x P) : Ho (chk b x) P := by unfold chk; rw [if_pos hb]; exact h
theorem ho_nm {α β : Type} {a : α} {k : α → Option β} {P : β → Prop} (h : Ho (k a) P) : Ho (nm a k) P := h
theorem ho_if {α : Type} {c : Prop} {d : Decidable c} {A B : Option α} {P : α → Prop} (h1 : c → Ho A P) (h2 : ¬ c → Ho B P) : Ho (if c then A else B) P := by
  by_cases h : c
  · rw [if_pos h]; exact h1 h
  · rw [if_neg h]; exact h2 h
theorem ho_t {α : Type} {c : Prop} {d : Decidable c} {A B : Option α} {P : α → Prop} (h : c) (h1 : Ho A P) : Ho (if c then A else B) P := by rw [if_pos h]; exact h1
theorem ho_f {α : Type} {c : Prop} {d : Decidable c} {A B : Option α} {P : α → Prop} (h : ¬ c) (h1 : Ho B P) : Ho (if c then A else B) P := by rw [if_neg h]; exact h1
theorem ho_bind {α β : Type} {x : Option α} {k : α → Option β} {P : β → Prop} {Q : α → Prop} (h : Ho x Q) (h2 : ∀ a, Q a → Ho (k a) P) : Ho (x.bind k) P := by
  obtain ⟨a, rfl, ha⟩ := h
  exact h2 a ha
theorem ho_jn {α β : Type} {k : α → Option β} {b : (α → Option β) → Option β} {P : β → Prop} (h : Ho (b k) P) : Ho (jn k b) P := h
theorem ho_mono {α : Type} {x : Option α} {P Q : α → Prop} (h : Ho x P) (hP : ∀ a, P a → Q a) : Ho x Q := by
  obtain ⟨a, e, ha⟩ := h
  exact ⟨a, e, hP a ha⟩
theorem ib_nI {k n : Nat} (h : k < n) (hn : n < 2 ^ 31) : ib (nI k) n = true := by
  unfold ib
  exact decide_eq_true (nI_in h hn)
/-- only the cells of W change -/
def Fr (W : List Nat) (σ σ' : St) : Prop := ∀ i, i ∉ W → σ'.1 i = σ.1 i ∧ σ'.2 i = σ.2 i
theorem Fr.refl {W : List Nat} {σ : St} : Fr W σ σ := fun _ _ => ⟨rfl, rfl⟩
theorem Fr.trans {W : List Nat} {σ τ υ : St} (h : Fr W σ τ) (h2 : Fr W τ υ) : Fr W σ υ := fun i hi => ⟨(h2 i hi).1.trans (h i hi).1, (h2 i hi).2.trans (h i hi).2⟩
theorem Fr.mono {W V : List Nat} {σ τ : St} (h : Fr W σ τ) (hs : ∀ i, i ∈ W → i ∈ V) : Fr V σ τ := fun i hi => h i (fun q => hi (hs i q))
theorem Fr.sI {W : List Nat} {σ τ : St} {i k : Nat} {v : Int32} (h : Fr W σ τ) (hi : i ∈ W) : Fr W σ (sI τ i k v) := fun j hj => by
  have hne : j ≠ i := fun e => hj (e ▸ hi)
  exact ⟨(sI_ne τ k v hne).trans (h j hj).1, (h j hj).2⟩
theorem Fr.sL {W : List Nat} {σ τ : St} {i k : Nat} {v : Int64} (h : Fr W σ τ) (hi : i ∈ W) : Fr W σ (sL τ i k v) := fun j hj => by
  have hne : j ≠ i := fun e => hj (e ▸ hi)
  exact ⟨(h j hj).1, (sL_ne τ k v hne).trans (h j hj).2⟩
theorem Fr.i {W : List Nat} {σ τ : St} (h : Fr W σ τ) {i : Nat} (hi : i ∉ W) : τ.1 i = σ.1 i := (h i hi).1
theorem Fr.l {W : List Nat} {σ τ : St} (h : Fr W σ τ) {i : Nat} (hi : i ∉ W) : τ.2 i = σ.2 i := (h i hi).2
theorem sI_at (σ : St) (i k : Nat) (v : Int32) : (sI σ i k v).1 i k = v := by rw [sI_same]; exact pk_us
theorem sI_off (σ : St) (i k : Nat) (v : Int32) {j : Nat} (h : j ≠ k) : (sI σ i k v).1 i j = σ.1 i j := by rw [sI_same]; exact pk_un h
theorem sL_at (σ : St) (i k : Nat) (v : Int64) : (sL σ i k v).2 i k = v := by rw [sL_same]; exact pk_uLs
theorem sL_off (σ : St) (i k : Nat) (v : Int64) {j : Nat} (h : j ≠ k) : (sL σ i k v).2 i j = σ.2 i j := by rw [sL_same]; exact pk_uLn h
theorem sI_2 (σ : St) (i k : Nat) (v : Int32) : (sI σ i k v).2 = σ.2 := rfl
theorem sL_1 (σ : St) (i k : Nat) (v : Int64) : (sL σ i k v).1 = σ.1 := rfl
theorem nI31 {k : Nat} (h : k < 1000) : (nI k).toNatClampNeg = k := nI_clamp (by omega)
theorem nI_ge' {a b : Nat} (h : a ≤ b) (hb : b < 1000) : nI a ≤ nI b := nI_le h (by omega)
theorem nI_nge' {a b : Nat} (h : b < a) (ha : a < 1000) : ¬ nI a ≤ nI b := nI_ge h (by omega)
theorem nI_ne {a b : Nat} (h : a ≠ b) (ha : a < 1000) (hb : b < 1000) : ¬ nI a = nI b := fun e => h ((nI_eq (by omega) (by omega)).mp e)
theorem nI_inj {a b : Nat} (ha : a < 1000) (hb : b < 1000) (e : nI a = nI b) : a = b := (nI_eq (by omega) (by omega)).mp e
def iI (z : Int) : Int32 := Int32.ofInt z
def bI (b : Bool) : Int32 := if b = true then 1 else 0
theorem bI_0 {b : Bool} : bI b = 0 ↔ b = false := by cases b <;> decide
theorem bI_nar (b : Bool) : vp_nar .boolean (bI b) = bI b := by cases b <;> rfl
/-- a grid, as numbers: buses, lines, ends, strength, limit, injections, in service -/
abbrev Net : Type := Nat × Nat × (Nat → Nat) × (Nat → Nat) × (Nat → Int) × (Nat → Int) × (Nat → Int) × (Nat → Bool)
abbrev nB (N : Net) : Nat := N.1
abbrev nL (N : Net) : Nat := N.2.1
abbrev eA (N : Net) : Nat → Nat := N.2.2.1
abbrev eB (N : Net) : Nat → Nat := N.2.2.2.1
abbrev eS (N : Net) : Nat → Int := N.2.2.2.2.1
abbrev eM (N : Net) : Nat → Int := N.2.2.2.2.2.1
abbrev eQ (N : Net) : Nat → Int := N.2.2.2.2.2.2.1
abbrev eO (N : Net) : Nat → Bool := N.2.2.2.2.2.2.2
def LV (N : Net) (l : Nat) : Prop := eA N l < nB N ∧ eB N l < nB N ∧ eA N l ≠ eB N l ∧ 1 ≤ eS N l ∧ eS N l ≤ 5 ∧ 1 ≤ eM N l ∧ eM N l ≤ 999
def NV (N : Net) : Prop := 2 ≤ nB N ∧ nB N ≤ 6 ∧ nL N ≤ 10 ∧ (∀ i, i < 6 → -99 ≤ eQ N i ∧ eQ N i ≤ 99) ∧ ∀ l, l < nL N → LV N l
/-- the class's grid whose object is the cell g -/
def CG (σ : St) (g : Nat) (N : Net) : Prop := σ.1 g 6 = nI (nB N) ∧ σ.1 g 7 = nI (nL N) ∧ (∀ i, i < 6 → σ.1 (g + 1) i = iI (eQ N i)) ∧ ∀ l, l < nL N → σ.1 (g + 2) l = nI (eA N l) ∧ σ.1 (g + 3) l = nI (eB N l) ∧ σ.1 (g + 4) l = iI (eS N l) ∧ σ.1 (g + 5) l = iI (eM N l) ∧ σ.1 (g + 6) l = bI (eO N l)
theorem CG.of {σ σ' : St} {g : Nat} {N : Net} (h : CG σ g N) (e : ∀ k, k < 7 → σ'.1 (g + k) = σ.1 (g + k)) : CG σ' g N := by
  obtain ⟨h1, h2, h3, h4⟩ := h
  have e0 := e 0 (by omega)
  have e1 := e 1 (by omega)
  have e2 := e 2 (by omega)
  have e3 := e 3 (by omega)
  have e4 := e 4 (by omega)
  have e5 := e 5 (by omega)
  have e6 := e 6 (by omega)
  rw [Nat.add_zero] at e0
  refine ⟨by rw [e0]; exact h1, by rw [e0]; exact h2, fun i hi => by rw [e1]; exact h3 i hi, fun l hl => ?_⟩
  rw [e2, e3, e4, e5, e6]
  exact h4 l hl
theorem CG.fr {σ σ' : St} {W : List Nat} {N : Net} (h : CG σ 24 N) (hf : Fr W σ σ') (hW : ∀ k, k < 7 → 24 + k ∉ W) : CG σ' 24 N := h.of (fun k hk => hf.i (hW k hk))
/-! islands, by lines one after the other -/
theorem Isl.zero (n : Nat) (a b : Nat → Nat) (lv : Nat → Bool) : Isl n 0 a b lv (fun i => i) := ⟨fun i _ => ⟨Nat.le_refl i, rfl⟩, fun l hl => absurd hl (Nat.not_lt_zero l), fun _ _ _ _ => Iff.rfl⟩
theorem Isl.skip {n l : Nat} {a b : Nat → Nat} {lv : Nat → Bool} {t : Nat → Nat} (h : Isl n l a b lv t) (hv : lv l = false) : Isl n (l + 1) a b lv t := by
  refine ⟨h.1, fun k hk hkv => ?_, fun P hP i hi => h.2.2 P (fun k hk => hP k (by omega)) i hi⟩
  by_cases e : k = l
  · rw [e, hv] at hkv; cases hkv
  · exact h.2.1 k (by omega) hkv
theorem Isl.join {n l : Nat} {a b : Nat → Nat} {lv : Nat → Bool} {t : Nat → Nat} (h : Isl n l a b lv t) (hv : lv l = true) (ha : a l < n) (hb : b l < n) {lo hi : Nat} (hlh : (lo = t (a l) ∧ hi = t (b l) ∨ lo = t (b l) ∧ hi = t (a l)) ∧ lo ≤ hi) : Isl n (l + 1) a b lv (fun i => if t i = hi then lo else t i) := by
  obtain ⟨hc, hle⟩ := hlh
  have tlo : t lo = lo := by rcases hc with ⟨e, -⟩ | ⟨e, -⟩ <;> rw [e] <;> first | exact (h.1 _ ha).2 | exact (h.1 _ hb).2
  have ta : t (a l) = lo ∨ t (a l) = hi := by rcases hc with ⟨e, f⟩ | ⟨e, f⟩ <;> omega
  have tb : t (b l) = lo ∨ t (b l) = hi := by rcases hc with ⟨e, f⟩ | ⟨e, f⟩ <;> omega
  have to_lo : ∀ i, (t i = lo ∨ t i = hi) → (if t i = hi then lo else t i) = lo := fun i hi2 => by
    by_cases q : t i = hi
    · rw [if_pos q]
    · rw [if_neg q]; omega
  refine ⟨fun i hi2 => ?_, fun k hk hkv => ?_, fun P hP i hi2 => ?_⟩
  · obtain ⟨g1, g2⟩ := h.1 i hi2
    dsimp only
    by_cases q : t i = hi
    · rw [if_pos q]
      refine ⟨by omega, to_lo lo (Or.inl tlo)⟩
    · rw [if_neg q, g2, if_neg q]
      exact ⟨g1, rfl⟩
  · dsimp only
    by_cases e : k = l
    · rw [e, to_lo _ ta, to_lo _ tb]
    · rw [h.2.1 k (by omega) hkv]
  · have ih := h.2.2 P (fun k hk => hP k (by omega))
    have hab := hP l (by omega) hv
    have pa := ih (a l) ha
    have pb := ih (b l) hb
    have plh : P lo ↔ P hi := by
      rcases hc with ⟨e, f⟩ | ⟨e, f⟩
      · rw [e, f, ← pa, ← pb]; exact hab
      · rw [e, f, ← pa, ← pb]; exact hab.symm
    dsimp only
    rw [ih i hi2]
    by_cases q : t i = hi
    · rw [if_pos q, q]; exact plh.symm
    · rw [if_neg q]
