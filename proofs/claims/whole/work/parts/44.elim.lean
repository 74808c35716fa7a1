/-! the class: lines into the rows; elimination, its mathematics -/
def r6 : List Nat := [10, 11, 12, 13, 14, 15]
theorem r6_in {i : Nat} (h : i < 6) : 10 + i ∈ r6 := by
  match i, h with
  | 0, _ => decide
  | 1, _ => decide
  | 2, _ => decide
  | 3, _ => decide
  | 4, _ => decide
  | 5, _ => decide
theorem Fr.r6 {i : Nat} {σ τ : St} (h : Fr [10 + i] σ τ) (hi : i < 6) : Fr r6 σ τ := h.mono (fun j hj => by rw [List.mem_singleton.mp hj]; exact r6_in hi)
theorem Fr.row {i j : Nat} {σ τ : St} (h : Fr [10 + i] σ τ) (hij : j ≠ i) : τ.2 (10 + j) = σ.2 (10 + j) := h.l (by simp; omega)
theorem x_fill {σ : St} {N : Net} {lv : Nat → Bool} {sl : Nat → Nat} (hN : NV N) (hG : CG σ 24 N) (h8 : ∀ i, i < nB N → σ.1 8 i = nI (sl i)) (hsl : ∀ i, i < nB N → sl i < nB N) (pl mi : Int32) {k : St → Option St} {P : St → Prop}
    (hk : ∀ τ, Fr r6 σ τ → RowsI τ (nB N) (MxI N lv sl 0 pl mi) → Ho (k τ) P) : ∀ (d i fuel : Nat) (τ : St), i + d = nB N → d < fuel → Fr r6 σ τ → (∀ j, j < i → ∀ c, c < nB N + 2 → (τ.2 (10 + j) c).toInt = MxI N lv sl 0 pl mi j c) → Ho (f_X4_solve_2 pl mi k fuel (nI i) τ) P := by
  have hn6 := hN.2.1
  intro d
  induction d with
  | zero =>
    intro i fuel τ hid hf hF h
    obtain ⟨fuel, rfl⟩ : ∃ f, fuel = f + 1 := ⟨fuel - 1, by omega⟩
    rw [f_X4_solve_2, hF.i (i := 24) (by decide), hG.1]
    exact ho_t (nI_ge' (by omega) (by omega)) (hk τ hF (fun j hj => h j (by omega)))
  | succ d ih =>
    intro i fuel τ hid hf hF h
    obtain ⟨fuel, rfl⟩ : ∃ f, fuel = f + 1 := ⟨fuel - 1, by omega⟩
    rw [f_X4_solve_2, hF.i (i := 24) (by decide), hG.1]
    refine ho_f (nI_nge' (by omega) (by omega)) ?_
    refine ho_bind (x_startRow (lv := lv) (sl := sl) hN (hG.fr hF (by decide)) (fun j hj => by rw [hF.i (i := 8) (by decide)]; exact h8 j hj) hsl pl mi (i := i) (by omega)) (fun τ' hτ' => ?_)
    obtain ⟨hF', hr⟩ := hτ'
    rw [nI_1]
    refine ih (i + 1) fuel τ' (by omega) (by omega) (hF.trans (hF'.r6 (by omega))) (fun j hj c hc => ?_)
    by_cases e : j = i
    · rw [e]; exact hr c hc
    · rw [hF'.row e]; exact h j (by omega) c hc
theorem MxI_bd {N : Net} (hN : NV N) (lv : Nat → Bool) (sl : Nat → Nat) {t : Nat} (ht : t ≤ nL N) (pl mi : Int32) {i : Nat} (hi : i < 6) (c : Nat) : -99 ≤ MxI N lv sl t pl mi i c ∧ MxI N lv sl t pl mi i c ≤ 99 := by
  have h1 := AmI_bd hN lv sl ht i c
  have h2 := hN.2.2.2.1 i hi
  have h3 := pvI_bd pl mi i
  unfold MxI
  (repeat' split) <;> omega
theorem MxI_step {N : Net} (lv : Nat → Bool) (sl : Nat → Nat) (t : Nat) (pl mi : Int32) (i c : Nat) : MxI N lv sl (t + 1) pl mi i c = MxI N lv sl t pl mi i c + (if c < nB N ∧ sl i ≠ i ∧ sl c ≠ c ∧ lv t = true then eS N t * dsI N t i * dsI N t c else 0) := by
  unfold MxI AmI LaI
  by_cases h1 : c < nB N
  · rw [if_pos h1, if_pos h1]
    by_cases h2 : sl i = i
    · rw [if_pos h2, if_pos h2, if_neg (show ¬ (c < nB N ∧ sl i ≠ i ∧ sl c ≠ c ∧ lv t = true) from fun q => q.2.1 h2)]; omega
    · rw [if_neg h2, if_neg h2]
      by_cases h3 : sl c = c
      · rw [if_pos h3, if_pos h3, if_neg (fun q => q.2.2.1 h3)]; omega
      · rw [if_neg h3, if_neg h3, si]
        congr 1
        by_cases h4 : lv t = true
        · rw [if_pos h4, if_pos ⟨h1, h2, h3, h4⟩]
        · rw [if_neg h4, if_neg (fun q => h4 q.2.2.2)]
  · rw [if_neg h1, if_neg h1, if_neg (show ¬ (c < nB N ∧ sl i ≠ i ∧ sl c ≠ c ∧ lv t = true) from fun q => h1 q.1)]; omega
theorem x_lines {σ : St} {N : Net} {lv : Nat → Bool} {sl : Nat → Nat} (hN : NV N) (hG : CG σ 24 N) (h7 : Lv7 σ N lv) (h8 : ∀ i, i < nB N → σ.1 8 i = nI (sl i)) (hsl : ∀ i, i < nB N → sl i < nB N) (pl mi : Int32) {k : St → Option St} {P : St → Prop}
    (hk : ∀ τ, Fr r6 σ τ → RowsI τ (nB N) (MxI N lv sl (nL N) pl mi) → Ho (k τ) P) : ∀ (d l fuel : Nat) (τ : St), l + d = nL N → d < fuel → Fr r6 σ τ → RowsI τ (nB N) (MxI N lv sl l pl mi) → Ho (f_X4_solve_28 k fuel (nI l) τ) P := by
  have hn6 := hN.2.1
  have hm := hN.2.2.1
  intro d
  induction d with
  | zero =>
    intro l fuel τ hid hf hF h
    obtain ⟨fuel, rfl⟩ : ∃ f, fuel = f + 1 := ⟨fuel - 1, by omega⟩
    have e : l = nL N := by omega
    subst e
    rw [f_X4_solve_28, hF.i (i := 24) (by decide), hG.2.1]
    exact ho_t (nI_ge' (Nat.le_refl _) (by omega)) (hk τ hF h)
  | succ d ih =>
    intro l fuel τ hid hf hF h
    obtain ⟨fuel, rfl⟩ : ∃ f, fuel = f + 1 := ⟨fuel - 1, by omega⟩
    have hlm : l < nL N := by omega
    obtain ⟨q1, q2, q3, -⟩ := hG.2.2.2 l hlm
    obtain ⟨v1, v2, v3, s1, s2, -⟩ := hN.2.2.2.2 l hlm
    rw [f_X4_solve_28, hF.i (i := 24) (by decide), hG.2.1, nI31 (by omega), hF.i (i := 7) (by decide), h7 l hlm]
    refine ho_f (nI_nge' hlm (by omega)) (ho_chk (ib_nI (by omega) (by omega)) (ho_if (fun c => ?_) (fun c => ?_)))
    · have c' := bI_0.mp c
      rw [nI_1]
      refine ih (l + 1) fuel τ (by omega) (by omega) hF (fun i hi e he => ?_)
      rw [MxI_step, if_neg (fun w => by rw [c'] at w; exact absurd w.2.2.2 (by decide)), h i hi e he]; omega
    · have c' : lv l = true := by
        cases h : lv l
        · exact absurd (by rw [h]; rfl) c
        · rfl
      rw [hF.i (i := 26) (by decide), hF.i (i := 27) (by decide), hF.i (i := 28) (by decide), q1, q2, q3]
      refine ho_bind (x_addTerms (n := nB N) (sl := sl) (F := fun c => MxI N lv sl l pl mi (eA N l) c) hn6 v1 v2 v3 ⟨s1, s2⟩ hsl (fun i hi => by rw [hF.i (i := 8) (by decide)]; exact h8 i hi) (fun c hc => h _ v1 c hc) (fun c _ => by have := MxI_bd hN lv sl (t := l) (by omega) pl mi (i := eA N l) (by omega) c; omega)) (fun τ1 h1 => ?_)
      obtain ⟨F1, R1⟩ := h1
      have F1' := F1.r6 (i := eA N l) (by omega)
      rw [F1'.i (i := 26) (by decide), F1'.i (i := 27) (by decide), F1'.i (i := 28) (by decide), hF.i (i := 26) (by decide), hF.i (i := 27) (by decide), hF.i (i := 28) (by decide), q1, q2, q3]
      refine ho_bind (x_addTerms (n := nB N) (sl := sl) (F := fun c => MxI N lv sl l pl mi (eB N l) c) hn6 v2 v1 (fun e => v3 e.symm) ⟨s1, s2⟩ hsl (fun i hi => by rw [F1'.i (i := 8) (by decide), hF.i (i := 8) (by decide)]; exact h8 i hi) (fun c hc => by rw [F1.row (fun e => v3 e.symm)]; exact h _ v2 c hc) (fun c _ => by have := MxI_bd hN lv sl (t := l) (by omega) pl mi (i := eB N l) (by omega) c; omega)) (fun τ2 h2 => ?_)
      obtain ⟨F2, R2⟩ := h2
      rw [nI_1]
      refine ih (l + 1) fuel τ2 (by omega) (by omega) ((hF.trans F1').trans (F2.r6 (i := eB N l) (by omega))) (fun i hi e he => ?_)
      rw [MxI_step]
      by_cases ib : i = eB N l
      · rw [ib, R2 e he]
        have hd : dsI N l (eB N l) = -1 := by unfold dsI; rw [if_neg (fun w => v3 w.symm), if_pos rfl]; rfl
        rw [hd]
        congr 1
        by_cases g1 : sl (eB N l) = eB N l
        · rw [if_pos g1, if_neg (fun w => w.2.1 g1)]
        · rw [if_neg g1]
          by_cases g2 : e = eB N l
          · rw [if_pos g2, if_pos ⟨by omega, g1, by rw [g2]; exact g1, c'⟩, g2, hd]; omega
          · rw [if_neg g2]
            by_cases g3 : e = eA N l
            · have ha : dsI N l (eA N l) = 1 := by unfold dsI; rw [if_pos rfl, if_neg v3]; rfl
              by_cases g4 : sl (eA N l) = eA N l
              · rw [if_neg (fun w => w.2 g4), if_neg (fun w => w.2.2.1 (by rw [g3]; exact g4))]
              · rw [if_pos ⟨g3, g4⟩, if_pos ⟨by omega, g1, by rw [g3]; exact g4, c'⟩, g3, ha]; omega
            · rw [if_neg (fun w => g3 w.1)]
              have he0 : dsI N l e = 0 := by unfold dsI; rw [if_neg g3, if_neg g2]; rfl
              rw [he0]; split <;> omega
      · rw [F2.row ib]
        by_cases ia : i = eA N l
        · rw [ia, R1 e he]
          have hd : dsI N l (eA N l) = 1 := by unfold dsI; rw [if_pos rfl, if_neg v3]; rfl
          rw [hd]
          congr 1
          by_cases g1 : sl (eA N l) = eA N l
          · rw [if_pos g1, if_neg (fun w => w.2.1 g1)]
          · rw [if_neg g1]
            by_cases g2 : e = eA N l
            · rw [if_pos g2, if_pos ⟨by omega, g1, by rw [g2]; exact g1, c'⟩, g2, hd]; omega
            · rw [if_neg g2]
              by_cases g3 : e = eB N l
              · have hb : dsI N l (eB N l) = -1 := by unfold dsI; rw [if_neg (fun w => v3 w.symm), if_pos rfl]; rfl
                by_cases g4 : sl (eB N l) = eB N l
                · rw [if_neg (fun w => w.2 g4), if_neg (fun w => w.2.2.1 (by rw [g3]; exact g4))]
                · rw [if_pos ⟨g3, g4⟩, if_pos ⟨by omega, g1, by rw [g3]; exact g4, c'⟩, g3, hb]; omega
              · rw [if_neg (fun w => g3 w.1)]
                have he0 : dsI N l e = 0 := by unfold dsI; rw [if_neg g2, if_neg g3]; rfl
                rw [he0]; split <;> omega
        · rw [F1.row ia, h i hi e he]
          have hi0 : dsI N l i = 0 := by unfold dsI; rw [if_neg ia, if_neg ib]; rfl
          rw [hi0]; split <;> omega
/-! the mathematics of it -/
def MxQ (N : Net) (lv : Nat → Bool) (sl : Nat → Nat) (pl mi : Int32) : Nat → Nat → Rat := fun i c => ((MxI N lv sl (nL N) pl mi i c : Int) : Rat)
abbrev AmQ (N : Net) (lv : Nat → Bool) (sl : Nat → Nat) : Nat → Nat → Rat := Am (nL N) (eA N) (eB N) (sR N) lv sl
theorem MxQ_A {N : Net} (lv : Nat → Bool) (sl : Nat → Nat) (pl mi : Int32) {i c : Nat} (hc : c < nB N) : MxQ N lv sl pl mi i c = AmQ N lv sl i c := by
  unfold MxQ MxI
  rw [if_pos hc]
  exact AmI_cast N lv sl (nL N) i c
theorem NV.ab {N : Net} (hN : NV N) : ∀ l, l < nL N → eA N l < nB N ∧ eB N l < nB N := fun l hl => ⟨(hN.2.2.2.2 l hl).1, (hN.2.2.2.2 l hl).2.1⟩
theorem NV.ab3 {N : Net} (hN : NV N) : ∀ l, l < nL N → eA N l < nB N ∧ eB N l < nB N ∧ eA N l ≠ eB N l := fun l hl => ⟨(hN.2.2.2.2 l hl).1, (hN.2.2.2.2 l hl).2.1, (hN.2.2.2.2 l hl).2.2.1⟩
theorem NV.s {N : Net} (hN : NV N) : ∀ l, l < nL N → 0 < sR N l ∧ sR N l ≤ 5 := fun l hl => by
  obtain ⟨-, -, -, h1, h2, -⟩ := hN.2.2.2.2 l hl
  constructor
  · show (0 : Rat) < ((eS N l : Int) : Rat)
    have : ((0 : Int) : Rat) < ((eS N l : Int) : Rat) := by exact_mod_cast (show (0 : Int) < eS N l by omega)
    exact this
  · show ((eS N l : Int) : Rat) ≤ 5
    have : ((eS N l : Int) : Rat) ≤ ((5 : Int) : Rat) := by exact_mod_cast h2
    exact this
theorem NV.s0 {N : Net} (hN : NV N) : ∀ l, l < nL N → 0 < sR N l := fun l hl => (hN.s l hl).1
abbrev IslN (N : Net) (lv : Nat → Bool) (sl : Nat → Nat) : Prop := Isl (nB N) (nL N) (eA N) (eB N) lv sl
theorem AmQ_PD {N : Net} (hN : NV N) {lv : Nat → Bool} {sl : Nat → Nat} (hI : IslN N lv sl) : PD (nB N) (AmQ N lv sl) := Am_PD hI hN.ab hN.s0
theorem MxQ_dt {N : Net} (lv : Nat → Bool) (sl : Nat → Nat) (pl mi : Int32) {t : Nat} (ht : t ≤ nB N) : dt t (MxQ N lv sl pl mi) = dt t (AmQ N lv sl) := dt_congr (fun r c _ hc => MxQ_A lv sl pl mi (by omega))
theorem MxQ_pos {N : Net} (hN : NV N) {lv : Nat → Bool} {sl : Nat → Nat} (hI : IslN N lv sl) (pl mi : Int32) {t : Nat} (ht : t ≤ nB N) : 0 < dt t (MxQ N lv sl pl mi) := by
  rw [MxQ_dt lv sl pl mi ht]
  exact (AmQ_PD hN hI).dpos ht
/-- bounds of columns -/
def cB (n : Nat) (c : Nat) : Rat := if c = 0 then 1 else if c < n then 100 else 495
theorem ab_0 : ab 0 = 0 := by unfold ab; grind
theorem ab_int (z : Int) : ab (z : Rat) = ((z.natAbs : Int) : Rat) := by
  unfold ab
  split
  · next h =>
    have : z < 0 := by exact_mod_cast h
    rw [← Rat.intCast_neg]
    congr 1
    omega
  · next h =>
    have : ¬ z < 0 := fun q => h (by exact_mod_cast q)
    congr 1
    omega
theorem cols {N : Net} (hN : NV N) {lv : Nat → Bool} {sl : Nat → Nat} (hI : IslN N lv sl) (pl mi : Int32) (c : Nat) : sm (fun r => ab (MxQ N lv sl pl mi r c)) (nB N) ≤ cB (nB N) c := by
  have hn := hN.2.1
  have hn2 := hN.1
  have h0 : sl 0 = 0 := by have := (hI.1 0 (by omega)).1; omega
  have one : ∀ c, c < nB N → sl c = c → sm (fun r => ab (MxQ N lv sl pl mi r c)) (nB N) ≤ 1 := by
    intro c hc hs
    rw [sm_one hc (fun r hr hne => ?_)]
    · rw [MxQ_A lv sl pl mi hc]
      show ab (Am _ _ _ _ _ _ _ _) ≤ 1
      unfold Am
      rw [if_pos hs, if_pos rfl]
      unfold ab; grind
    · rw [MxQ_A lv sl pl mi hc]
      show ab (Am _ _ _ _ _ _ _ _) = 0
      unfold Am
      by_cases hr2 : sl r = r
      · rw [if_pos hr2, if_neg (fun e => hne e.symm), ab_0]
      · rw [if_neg hr2, if_pos hs, ab_0]
  have tail : ∀ (f : Nat → Rat) (B : Rat), 0 ≤ B → f 0 = 0 → (∀ r, r < nB N → ab (f r) ≤ B) → sm (fun r => ab (f r)) (nB N) ≤ 5 * B := by
    intro f B hB hf hb
    obtain ⟨n', hn'⟩ : ∃ n', nB N = n' + 1 := ⟨nB N - 1, by omega⟩
    rw [hn', sm_head, hf, ab_0]
    have q : sm (fun k => ab (f (k + 1))) n' ≤ sm (fun _ => B) n' := sm_le (fun k hk => hb (k + 1) (by omega))
    rw [sm_const] at q
    have : ((n' : Nat) : Rat) ≤ ((5 : Nat) : Rat) := by exact_mod_cast (show n' ≤ 5 by omega)
    have h5 : ((5 : Nat) : Rat) = 5 := rfl
    have := mul_le2 this (Rat.le_refl (a := B)) hB (by grind)
    grind
  unfold cB
  by_cases hc0 : c = 0
  · rw [if_pos hc0, hc0]
    exact one 0 (by omega) h0
  · rw [if_neg hc0]
    by_cases hc : c < nB N
    · rw [if_pos hc]
      by_cases hs : sl c = c
      · have := one c hc hs; grind
      · refine Rat.le_trans (sm_le (fun r hr => ?_)) (La_col (lv := lv) (j := c) hN.ab hN.2.2.1 hN.s)
        rw [MxQ_A lv sl pl mi hc]
        show ab (Am _ _ _ _ _ _ _ _) ≤ _
        unfold Am
        by_cases hr2 : sl r = r
        · rw [if_pos hr2, if_neg (fun e => hs (by rw [e]; exact hr2)), ab_0]; exact ab_nn _
        · rw [if_neg hr2, if_neg hs]; exact Rat.le_refl
    · rw [if_neg hc]
      have q := tail (fun r => MxQ N lv sl pl mi r c) 99 (by grind) (by
        unfold MxQ MxI
        rw [if_neg hc, if_pos h0]; rfl) (fun r hr => by
        unfold MxQ
        rw [ab_int]
        have : (((MxI N lv sl (nL N) pl mi r c).natAbs : Int) : Rat) ≤ ((99 : Int) : Rat) := by
          have := MxI_bd hN lv sl (Nat.le_refl (nL N)) pl mi (i := r) (by omega) c
          exact_mod_cast (show ((MxI N lv sl (nL N) pl mi r c).natAbs : Int) ≤ 99 by omega)
        exact this)
      grind
