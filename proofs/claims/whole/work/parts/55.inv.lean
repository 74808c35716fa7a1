/-! the invariant of the law's loop: both systems hold the same grid, past, counts and text -/
/-- the reference's words -/
def wdL : List Nat := [98, 117, 115, 0, 0, 0, 0, 0, 108, 105, 110, 101, 0, 0, 0, 0, 111, 112, 101, 110, 0, 0, 0, 0, 99, 108, 111, 115, 101, 0, 0, 0, 108, 105, 109, 105, 116, 0, 0, 0, 115, 116, 114, 101, 110, 103, 116, 104, 100, 114, 111, 112, 0, 0, 0, 0, 98, 101, 103, 105, 110, 0, 0, 0]
def wdT (k : Nat) : Int32 := nI (wdL.getD k 0)
def IN (N : Net) (σ : St) (x y z : Int32) : Prop :=
  NV N ∧ CG σ 24 N ∧ MG (σ.1 88) N ∧
  (∃ (o p : Nat) (H : Nat → Net), o < 8 ∧ p ≤ 8 ∧ σ.1 1 1 = nI o ∧ σ.1 1 2 = nI p ∧ σ.1 87 3 = nI p ∧ ∀ k, k < p → NV (H k) ∧ CG σ (24 + 7 * ((o + k) % 8 + 1)) (H k) ∧ MG (fun w => σ.1 89 (58 * k + w)) (H k)) ∧
  (σ.1 0 5 = σ.1 91 0 + x ∧ σ.1 0 6 = σ.1 91 1 + y ∧ σ.1 0 7 = σ.1 91 2 + z) ∧
  ∃ T : Nat, T ≤ 120 ∧ σ.1 3 2 = nI T ∧ σ.1 87 6 = nI T ∧ (∀ k, k < T → σ.1 4 k = σ.1 92 k ∧ 0 ≤ (σ.1 4 k).toInt ∧ (σ.1 4 k).toInt ≤ 127) ∧ ∀ k, k < 64 → σ.1 104 k = wdT k
abbrev CS : List Nat := [6, 7, 8, 9, 10, 11, 12, 13, 14, 15, 16, 17, 18, 19, 20, 21, 22, 23]
abbrev MS : List Nat := [87, 93, 94, 95, 96, 97, 98, 99, 100, 101, 102, 103]
def QM (σ τ : St) : Prop := Fr MS σ τ ∧ τ.1 87 3 = σ.1 87 3 ∧ τ.1 87 6 = σ.1 87 6
theorem QM.refl {σ : St} : QM σ σ := ⟨Fr.refl, rfl, rfl⟩
theorem QM.trans {σ τ υ : St} (h : QM σ τ) (g : QM τ υ) : QM σ υ := ⟨h.1.trans g.1, g.2.1.trans h.2.1, g.2.2.trans h.2.2⟩
theorem MG.cg {g g' : Nat → Int32} {N : Net} (h : MG g N) (e : ∀ w, w < 58 → g' w = g w) (hN : NV N) : MG g' N := by
  refine ⟨by rw [e 0 (by omega)]; exact h.1, by rw [e 1 (by omega)]; exact h.2.1, fun i hi => by rw [e (2 + i) (by omega)]; exact h.2.2.1 i hi, fun l hl => ?_⟩
  have hm := hN.2.2.1
  rw [e _ (by omega), e _ (by omega), e _ (by omega), e _ (by omega), e _ (by omega)]
  exact h.2.2.2 l hl
section In
variable {N : Net} {σ τ : St} {x y z : Int32}
theorem IN.q (h : IN N σ x y z) (hF : Fr CS σ τ) : IN N τ x y z := by
  obtain ⟨h1, h2, h3, ⟨o, p, H, o8, p8, e1, e2, e3, eH⟩, hc, T, T1, T2, T3, T4⟩ := h
  refine ⟨h1, h2.fr hF (by decide), by rw [hF.i (i := 88) (by decide)]; exact h3, ⟨o, p, H, o8, p8, by rw [hF.i (i := 1) (by decide)]; exact e1, by rw [hF.i (i := 1) (by decide)]; exact e2, by rw [hF.i (i := 87) (by decide)]; exact e3, fun k hk => ⟨(eH k hk).1, (eH k hk).2.1.of (fun w hw => hF.i ?_), ?_⟩⟩, ?_, T, T1, by rw [hF.i (i := 3) (by decide)]; exact T2, by rw [hF.i (i := 87) (by decide)]; exact T3, ?_⟩
  · simp only [CS, List.mem_cons, List.not_mem_nil, or_false]; omega
  · rw [hF.i (i := 89) (by decide)]; exact (eH k hk).2.2
  · rw [hF.i (i := 0) (by decide), hF.i (i := 91) (by decide)]; exact hc
  · rw [hF.i (i := 4) (by decide), hF.i (i := 92) (by decide), hF.i (i := 104) (by decide)]; exact T4
theorem IN.m (h : IN N σ x y z) (hQ : QM σ τ) : IN N τ x y z := by
  obtain ⟨h1, h2, h3, ⟨o, p, H, o8, p8, e1, e2, e3, eH⟩, hc, T, T1, T2, T3, T4⟩ := h
  obtain ⟨hF, q3, q6⟩ := hQ
  refine ⟨h1, h2.fr hF (by decide), by rw [hF.i (i := 88) (by decide)]; exact h3, ⟨o, p, H, o8, p8, by rw [hF.i (i := 1) (by decide)]; exact e1, by rw [hF.i (i := 1) (by decide)]; exact e2, by rw [q3]; exact e3, fun k hk => ⟨(eH k hk).1, (eH k hk).2.1.of (fun w hw => hF.i ?_), ?_⟩⟩, ?_, T, T1, by rw [hF.i (i := 3) (by decide)]; exact T2, by rw [q6]; exact T3, ?_⟩
  · have : (o + k) % 8 < 8 := Nat.mod_lt _ (by omega)
    simp only [MS, List.mem_cons, List.not_mem_nil, or_false]; omega
  · rw [hF.i (i := 89) (by decide)]; exact (eH k hk).2.2
  · rw [hF.i (i := 0) (by decide), hF.i (i := 91) (by decide)]; exact hc
  · rw [hF.i (i := 4) (by decide), hF.i (i := 92) (by decide), hF.i (i := 104) (by decide)]; exact T4
/-- a count told -/
theorem IN.c (h : IN N σ x y z) {x' y' z' : Int32} (hF : Fr [0, 91] σ τ) (hc : τ.1 0 5 = τ.1 91 0 + x' ∧ τ.1 0 6 = τ.1 91 1 + y' ∧ τ.1 0 7 = τ.1 91 2 + z') : IN N τ x' y' z' := by
  obtain ⟨h1, h2, h3, ⟨o, p, H, o8, p8, e1, e2, e3, eH⟩, -, T, T1, T2, T3, T4⟩ := h
  refine ⟨h1, h2.fr hF (by decide), by rw [hF.i (i := 88) (by decide)]; exact h3, ⟨o, p, H, o8, p8, by rw [hF.i (i := 1) (by decide)]; exact e1, by rw [hF.i (i := 1) (by decide)]; exact e2, by rw [hF.i (i := 87) (by decide)]; exact e3, fun k hk => ⟨(eH k hk).1, (eH k hk).2.1.of (fun w hw => hF.i ?_), ?_⟩⟩, hc, T, T1, by rw [hF.i (i := 3) (by decide)]; exact T2, by rw [hF.i (i := 87) (by decide)]; exact T3, ?_⟩
  · have : (o + k) % 8 < 8 := Nat.mod_lt _ (by omega)
    simp only [List.mem_cons, List.not_mem_nil, or_false]; omega
  · rw [hF.i (i := 89) (by decide)]; exact (eH k hk).2.2
  · rw [hF.i (i := 4) (by decide), hF.i (i := 92) (by decide), hF.i (i := 104) (by decide)]; exact T4
theorem x_bad (h : IN N σ 0 0 0) : Ho (f_X5_bad σ) (fun q => q.1 = -2 ∧ IN N q.2 1 0 0) := by
  unfold f_X5_bad
  refine ho_nm (ho_some ⟨rfl, h.c (Fr.refl.sI (by decide)) ?_⟩)
  obtain ⟨-, -, -, -, ⟨c1, c2, c3⟩, -⟩ := h
  dsimp only
  refine ⟨?_, ?_, ?_⟩
  · rw [sI_at, sI_ne _ _ _ (show 91 ≠ 0 by decide), c1]; grind
  · rw [sI_off _ _ _ _ (by decide), sI_ne _ _ _ (show 91 ≠ 0 by decide)]; exact c2
  · rw [sI_off _ _ _ _ (by decide), sI_ne _ _ _ (show 91 ≠ 0 by decide)]; exact c3
theorem x_no (h : IN N σ 0 0 0) : Ho (f_X5_no σ) (fun q => q.1 = -3 ∧ IN N q.2 0 1 0) := by
  unfold f_X5_no
  refine ho_nm (ho_some ⟨rfl, h.c (Fr.refl.sI (by decide)) ?_⟩)
  obtain ⟨-, -, -, -, ⟨c1, c2, c3⟩, -⟩ := h
  dsimp only
  refine ⟨?_, ?_, ?_⟩
  · rw [sI_off _ _ _ _ (by decide), sI_ne _ _ _ (show 91 ≠ 0 by decide)]; exact c1
  · rw [sI_at, sI_ne _ _ _ (show 91 ≠ 0 by decide), c2]; grind
  · rw [sI_off _ _ _ _ (by decide), sI_ne _ _ _ (show 91 ≠ 0 by decide)]; exact c3
theorem x_full (h : IN N σ 0 0 0) : Ho (f_X5_full σ) (fun q => q.1 = -4 ∧ IN N q.2 0 0 1) := by
  unfold f_X5_full
  refine ho_nm (ho_some ⟨rfl, h.c (Fr.refl.sI (by decide)) ?_⟩)
  obtain ⟨-, -, -, -, ⟨c1, c2, c3⟩, -⟩ := h
  dsimp only
  refine ⟨?_, ?_, ?_⟩
  · rw [sI_off _ _ _ _ (by decide), sI_ne _ _ _ (show 91 ≠ 0 by decide)]; exact c1
  · rw [sI_off _ _ _ _ (by decide), sI_ne _ _ _ (show 91 ≠ 0 by decide)]; exact c2
  · rw [sI_at, sI_ne _ _ _ (show 91 ≠ 0 by decide), c3]; grind
theorem y_bad (h : IN N σ 1 0 0) : Ho (f_X6_refuses (-2 : Int32) σ) (fun q => q.1 = -2 ∧ IN N q.2 0 0 0) := by
  unfold f_X6_refuses
  refine ho_chk (by decide) (ho_nm (ho_some ⟨rfl, h.c (Fr.refl.sI (by decide)) ?_⟩))
  obtain ⟨-, -, -, -, ⟨c1, c2, c3⟩, -⟩ := h
  rw [show ((-2 : Int32) - (-2 : Int32)).toNatClampNeg = 0 from rfl]
  dsimp only
  refine ⟨?_, ?_, ?_⟩
  · rw [sI_at, sI_ne _ _ _ (show 0 ≠ 91 by decide), c1]; grind
  · rw [sI_off _ _ _ _ (by decide), sI_ne _ _ _ (show 0 ≠ 91 by decide)]; exact c2
  · rw [sI_off _ _ _ _ (by decide), sI_ne _ _ _ (show 0 ≠ 91 by decide)]; exact c3
theorem y_no (h : IN N σ 0 1 0) : Ho (f_X6_refuses (-3 : Int32) σ) (fun q => q.1 = -3 ∧ IN N q.2 0 0 0) := by
  unfold f_X6_refuses
  refine ho_chk (by decide) (ho_nm (ho_some ⟨rfl, h.c (Fr.refl.sI (by decide)) ?_⟩))
  obtain ⟨-, -, -, -, ⟨c1, c2, c3⟩, -⟩ := h
  rw [show ((-2 : Int32) - (-3 : Int32)).toNatClampNeg = 1 from rfl]
  dsimp only
  refine ⟨?_, ?_, ?_⟩
  · rw [sI_off _ _ _ _ (by decide), sI_ne _ _ _ (show 0 ≠ 91 by decide)]; exact c1
  · rw [sI_at, sI_ne _ _ _ (show 0 ≠ 91 by decide), c2]; grind
  · rw [sI_off _ _ _ _ (by decide), sI_ne _ _ _ (show 0 ≠ 91 by decide)]; exact c3
theorem y_full (h : IN N σ 0 0 1) : Ho (f_X6_refuses (-4 : Int32) σ) (fun q => q.1 = -4 ∧ IN N q.2 0 0 0) := by
  unfold f_X6_refuses
  refine ho_chk (by decide) (ho_nm (ho_some ⟨rfl, h.c (Fr.refl.sI (by decide)) ?_⟩))
  obtain ⟨-, -, -, -, ⟨c1, c2, c3⟩, -⟩ := h
  rw [show ((-2 : Int32) - (-4 : Int32)).toNatClampNeg = 2 from rfl]
  dsimp only
  refine ⟨?_, ?_, ?_⟩
  · rw [sI_off _ _ _ _ (by decide), sI_ne _ _ _ (show 0 ≠ 91 by decide)]; exact c1
  · rw [sI_off _ _ _ _ (by decide), sI_ne _ _ _ (show 0 ≠ 91 by decide)]; exact c2
  · rw [sI_at, sI_ne _ _ _ (show 0 ≠ 91 by decide), c3]; grind
/-- guards -/
def inR (a : Int32) (lo hi : Int) : Bool := decide (lo ≤ a.toInt ∧ a.toInt ≤ hi)
theorem x_within (a lo hi : Int32) (σ : St) : f_X5_within a lo hi σ = some (bI (inR a lo.toInt hi.toInt), σ) := by
  unfold f_X5_within inR
  by_cases c : a < lo
  · have := i_lt.mp c
    rw [if_pos c, decide_eq_false (by omega)]; rfl
  · have c1 : ¬ a.toInt < lo.toInt := fun w => c (i_lt.mpr w)
    by_cases c2 : hi < a
    · have := i_lt.mp c2
      rw [if_neg c, if_pos c2, decide_eq_false (by omega)]; rfl
    · have c3 : ¬ hi.toInt < a.toInt := fun w => c2 (i_lt.mpr w)
      rw [if_neg c, if_neg c2, decide_eq_true (by omega)]; rfl
theorem y_in (a : Int32) (lo hi : Int64) (σ : St) : f_X6_in a.toInt64 lo hi σ = some (bI (inR a lo.toInt hi.toInt), σ) := by
  unfold f_X6_in inR
  have ea := i2l_t a
  by_cases c : a.toInt64 < lo
  · have := l_lt.mp c
    rw [if_pos c, decide_eq_false (by omega)]; rfl
  · have c1 : ¬ a.toInt64.toInt < lo.toInt := fun w => c (l_lt.mpr w)
    by_cases c2 : hi < a.toInt64
    · have := l_lt.mp c2
      rw [if_neg c, if_pos c2, decide_eq_false (by omega)]; rfl
    · have c3 : ¬ hi.toInt < a.toInt64.toInt := fun w => c2 (l_lt.mpr w)
      rw [if_neg c, if_neg c2, decide_eq_true (by omega)]; rfl
theorem x_flag (a : Int32) (σ : St) : f_X5_isFlag a σ = some (bI (inR a 0 1), σ) := by
  unfold f_X5_isFlag inR
  have e0 : (0 : Int32).toInt = 0 := rfl
  have e1 : (1 : Int32).toInt = 1 := rfl
  by_cases c : a = 0
  · rw [if_pos c, c, decide_eq_true (by omega)]; rfl
  · by_cases c2 : a = 1
    · rw [if_neg c, if_pos c2, c2, decide_eq_true (by omega)]; rfl
    · rw [if_neg c, if_neg c2, decide_eq_false (fun w => ?_)]
      · rfl
      · rcases (show a.toInt = 0 ∨ a.toInt = 1 by omega) with w | w
        · exact c (i_ext (by rw [w, e0]))
        · exact c2 (i_ext (by rw [w, e1]))
theorem inR_nI {a : Int32} {n : Nat} (h : inR a 0 ((n : Int) - 1) = true) : ∃ k, k < n ∧ a = nI k := by
  have h1 := of_decide_eq_true h
  refine ⟨a.toInt.toNat, by omega, i_ext ?_⟩
  have := fb_rng a
  rw [nI_toInt (by omega)]
  omega
theorem x_has {g : Int32} {n : Nat} (hn : n ≤ 10) (hg : g = nI n) (a : Int32) (σ : St) : (if a < 0 then some ((0 : Int32), σ) else if g ≤ a then some ((0 : Int32), σ) else some ((1 : Int32), σ)) = some (bI (inR a 0 ((n : Int) - 1)), σ) := by
  unfold inR
  have e0 : (0 : Int32).toInt = 0 := rfl
  have en : g.toInt = n := by rw [hg, nI_t (by omega)]
  by_cases c : a < 0
  · have := i_lt.mp c
    rw [if_pos c, decide_eq_false (by omega)]; rfl
  · have c1 : ¬ a.toInt < (0 : Int32).toInt := fun w => c (i_lt.mpr w)
    by_cases c2 : g ≤ a
    · have := i_le.mp c2
      rw [if_neg c, if_pos c2, decide_eq_false (by omega)]; rfl
    · have c3 : ¬ g.toInt ≤ a.toInt := fun w => c2 (i_le.mpr w)
      rw [if_neg c, if_neg c2, decide_eq_true (by omega)]; rfl
theorem x_hasLine (h : IN N σ x y z) (a : Int32) : f_X0_hasLine 0 a σ = some (bI (inR a 0 ((nL N : Int) - 1)), σ) := x_has h.1.2.2.1 h.2.1.2.1 a σ
theorem x_hasBus (h : IN N σ x y z) (a : Int32) : f_X0_hasBus 0 a σ = some (bI (inR a 0 ((nB N : Int) - 1)), σ) := x_has (by have := h.1.2.1; omega) h.2.1.1 a σ
theorem y_isOf {n : Nat} (hn : n ≤ 10) (a : Int32) (σ : St) : (f_X6_in a.toInt64 (0 : Int64) (nI n - (1 : Int32)).toInt64 σ).bind (fun q1 => chk (decide (q1.1 = 0 ∨ q1.1 = 1)) (some (q1.1, q1.2))) = some (bI (inR a 0 ((n : Int) - 1)), σ) := by
  have e1 : (1 : Int32).toInt = 1 := rfl
  have en : (nI n - (1 : Int32)).toInt64.toInt = (n : Int) - 1 := by rw [i2l_t, fb_subI (by rw [nI_t (by omega), e1]; omega) (by rw [nI_t (by omega), e1]; omega), nI_t (by omega), e1]
  rw [y_in, en, show (0 : Int64).toInt = 0 from rfl]
  cases inR a 0 ((n : Int) - 1) <;> rfl
theorem y_isLine (h : IN N σ x y z) (a : Int32) : f_X6_isLine a σ = some (bI (inR a 0 ((nL N : Int) - 1)), σ) := by
  unfold f_X6_isLine
  rw [show (1 : Int32).toNatClampNeg = 1 from rfl, h.2.2.1.2.1]
  exact y_isOf h.1.2.2.1 a σ
theorem y_isBus (h : IN N σ x y z) (a : Int32) : f_X6_isBus a σ = some (bI (inR a 0 ((nB N : Int) - 1)), σ) := by
  unfold f_X6_isBus
  rw [show (0 : Int32).toNatClampNeg = 0 from rfl, h.2.2.1.1]
  exact y_isOf (by have := h.1.2.1; omega) a σ
end In
