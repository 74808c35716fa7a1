/-! back, type, clear, told -/
section Bk
variable {N : Net} {σ : St}
theorem x_noR : f_X5_no σ = some ((-3 : Int32), sI σ 0 6 ((σ.1 0 6) + (1 : Int32))) := rfl
theorem y_back26 {m : Nat} (hm : m < 8) (h3 : σ.1 87 3 = nI m) : Ho (f_X6_back_26 (fun (σ11 : St) => some ((σ11.1 87 3), σ11)) 1000 (0 : Int32) σ) (fun q => Fr [88] σ q.2 ∧ q.1 = nI m ∧ ∀ w, w < 58 → q.2.1 88 w = σ.1 89 (58 * m + w)) := by
  have m58 : ∀ a : Nat, (58 : Int32) * nI a = nI (58 * a) := fun a => pk_mul 58 a
  have loop : ∀ (d l fuel : Nat) (τ : St), l + d = 58 → d < fuel → Fr [88] σ τ → (∀ w, w < l → τ.1 88 w = σ.1 89 (58 * m + w)) → Ho (f_X6_back_26 (fun (σ11 : St) => some ((σ11.1 87 3), σ11)) fuel (nI l) τ) (fun q => Fr [88] σ q.2 ∧ q.1 = nI m ∧ ∀ w, w < 58 → q.2.1 88 w = σ.1 89 (58 * m + w)) := by
    intro d
    induction d with
    | zero =>
      intro l fuel τ hd hf hF ha
      obtain ⟨fuel, rfl⟩ : ∃ f, fuel = f + 1 := ⟨fuel - 1, by omega⟩
      rw [f_X6_back_26]
      exact ho_t (nI_ge' (a := 58) (by omega) (by omega)) (ho_some ⟨hF, by show τ.1 87 3 = _; rw [hF.i (i := 87) (by decide)]; exact h3, fun w hw => ha w (by omega)⟩)
    | succ d ih =>
      intro l fuel τ hd hf hF ha
      obtain ⟨fuel, rfl⟩ : ∃ f, fuel = f + 1 := ⟨fuel - 1, by omega⟩
      rw [f_X6_back_26, hF.i (i := 87) (by decide), h3, m58, nI_add, nI31 (k := l) (by omega), nI31 (k := 58 * m + l) (by omega), nI_1 l, hF.i (i := 89) (by decide)]
      refine ho_f (nI_nge' (a := 58) (by omega) (by omega)) (ho_chk (ib_nI (by omega) (by omega)) (ho_chk (ib_nI (by omega) (by omega)) (ho_nm (ih (l + 1) fuel _ (by omega) (by omega) (hF.sI (by decide)) (fun w hw => ?_)))))
      rw [sI_if]
      by_cases e : w = l
      · rw [if_pos e, e]
      · rw [if_neg e]; exact ha w (by omega)
  exact loop 58 0 1000 σ (by omega) (by omega) Fr.refl (fun w hw => absurd hw (Nat.not_lt_zero w))
theorem op_back (h : IN N σ 0 0 0) : OE N (f_X5_back σ) f_X6_back := by
  have h0 := h
  obtain ⟨hN, hG, hM, ⟨o, p, H, o8, p8, e1, e2, e3, eH⟩, hct, T, T1, T2, T3, T4⟩ := h
  unfold OE f_X5_back
  rw [e2]
  by_cases c : p = 0
  · subst c
    obtain ⟨q, eq, q1, q2⟩ := x_no h0
    refine ho_t rfl (ho_be eq (ho_some ?_))
    rw [x_noR] at eq
    have e := Option.some.inj eq
    have hp : q.2.1 87 3 = nI 0 := by
      rw [← e]
      show (sI σ 0 6 _).1 87 3 = _
      rw [sI_ne _ _ _ (show 87 ≠ 0 by decide)]; exact e3
    unfold f_X6_back
    try dsimp only
    rw [hp]
    exact ho_t rfl (ho_bind (y_no q2) (fun r hr => ho_some ⟨by rw [hr.1, q1], N, hr.2⟩))
  · obtain ⟨m, rfl⟩ : ∃ m, p = m + 1 := ⟨p - 1, by omega⟩
    refine ho_f (fun w => c (nI_inj (b := 0) (by omega) (by omega) w)) ?_
    obtain ⟨nvm, cgm, mgm⟩ := eH m (by omega)
    unfold f_X1_restore
    rw [e2, nI_m1]
    have lt8 : (o + m) % 8 < 8 := Nat.mod_lt _ (by omega)
    have F0 : Fr [1] σ (sI σ 1 2 (nI m)) := Fr.refl.sI (by decide)
    have s11 : (sI σ 1 2 (nI m)).1 1 1 = nI o := by rw [sI_off _ _ _ _ (by decide)]; exact e1
    have s12 : (sI σ 1 2 (nI m)).1 1 2 = nI m := sI_at _ _ _ _
    unfold nm
    try dsimp only
    rw [s11, s12, nI_add, mod8 _ (by omega), nI31 (by omega)]
    generalize sI σ 1 2 (nI m) = σ1 at F0 s11 s12
    unfold chk
    rw [if_pos (ib_nI (by omega) (by omega))]
    have cg1 : CG σ1 (24 + 7 * ((o + m) % 8 + 1)) (H m) := cgm.of (fun k hk => F0.i (by simp; omega))
    obtain ⟨υ, eu, F1, cg2⟩ := x_copy (γ := 0) (γ2 := (o + m) % 8 + 1) (by omega) nvm cg1
    rw [eu]
    have F1' : Fr G0 σ1 υ := F1
    refine ho_some ?_
    have v12 : υ.1 1 2 = nI m := by rw [F1'.i (i := 1) (by decide)]; exact s12
    have v11 : υ.1 1 1 = nI o := by rw [F1'.i (i := 1) (by decide)]; exact s11
    have hi : ∀ i, 87 ≤ i → υ.1 i = σ.1 i := fun i hi => by rw [F1'.i (by simp [G0]; omega), F0.i (by simp; omega)]
    show Ho (f_X6_back υ) (fun r => r.1 = υ.1 1 2 ∧ _)
    unfold f_X6_back
    rw [hi 87 (by omega), e3, nI_m1]
    refine ho_f (fun w => c (nI_inj (b := 0) (by omega) (by omega) w)) (ho_nm ?_)
    refine ho_mono (y_back26 (m := m) (by omega) (sI_at _ _ _ _)) (fun r hr => ?_)
    obtain ⟨F2, r1, r88⟩ := hr
    have k89 : (sI υ 87 3 (nI m)).1 89 = σ.1 89 := by rw [sI_ne _ _ _ (show 89 ≠ 87 by decide), hi 89 (by omega)]
    rw [k89] at r88
    have lo : ∀ i, i < 87 → r.2.1 i = υ.1 i := fun i hi => by rw [F2.i (by simp; omega), sI_ne _ _ _ (by omega)]
    refine ⟨by rw [r1, v12], H m, nvm, ?_, ?_, ⟨o, m, H, o8, by omega, ?_, ?_, ?_, fun k hk => ⟨(eH k (by omega)).1, ?_, ?_⟩⟩, ?_, T, T1, ?_, ?_, ?_⟩
    · exact (show CG υ 24 (H m) from cg2).of (fun k hk => lo _ (by omega))
    · exact mgm.cg (fun w hw => r88 w hw) nvm
    · rw [lo 1 (by omega)]; exact v11
    · rw [lo 1 (by omega)]; exact v12
    · rw [F2.i (i := 87) (by decide), sI_at]
    · have ltk : (o + k) % 8 < 8 := Nat.mod_lt _ (by omega)
      refine (eH k (by omega)).2.1.of (fun w hw => ?_)
      rw [lo _ (by omega), F1'.i (by simp [G0]; omega), F0.i (by simp; omega)]
    · rw [F2.i (i := 89) (by decide), k89]; exact (eH k (by omega)).2.2
    · rw [lo 0 (by omega), F1'.i (i := 0) (by decide), F0.i (i := 0) (by decide), F2.i (i := 91) (by decide), sI_ne _ _ _ (show 91 ≠ 87 by decide), hi 91 (by omega)]
      exact hct
    · rw [lo 3 (by omega), F1'.i (i := 3) (by decide), F0.i (i := 3) (by decide)]; exact T2
    · rw [F2.i (i := 87) (by decide), sI_off _ _ _ _ (show 6 ≠ 3 by decide), hi 87 (by omega)]; exact T3
    · rw [lo 4 (by omega), F1'.i (i := 4) (by decide), F0.i (i := 4) (by decide), F2.i (i := 92) (by decide), sI_ne _ _ _ (show 92 ≠ 87 by decide), hi 92 (by omega), F2.i (i := 104) (by decide), sI_ne _ _ _ (show 104 ≠ 87 by decide), hi 104 (by omega)]
      exact T4
/-- a state in which only the text differs -/
theorem IN.text (h : IN N σ 0 0 0) {τ : St} (hF : Fr [3, 4, 87, 92] σ τ) (h3 : τ.1 87 3 = σ.1 87 3) {T : Nat} (T1 : T ≤ 120) (T2 : τ.1 3 2 = nI T) (T3 : τ.1 87 6 = nI T) (T4 : ∀ k, k < T → τ.1 4 k = τ.1 92 k ∧ 0 ≤ (τ.1 4 k).toInt ∧ (τ.1 4 k).toInt ≤ 127) : IN N τ 0 0 0 := by
  obtain ⟨hN, hG, hM, ⟨o, p, H, o8, p8, e1, e2, e3, eH⟩, hct, T', T1', T2', T3', T4'⟩ := h
  refine ⟨hN, hG.fr hF (by decide), by rw [hF.i (i := 88) (by decide)]; exact hM, ⟨o, p, H, o8, p8, by rw [hF.i (i := 1) (by decide)]; exact e1, by rw [hF.i (i := 1) (by decide)]; exact e2, by rw [h3]; exact e3, fun k hk => ⟨(eH k hk).1, (eH k hk).2.1.of (fun w hw => hF.i ?_), ?_⟩⟩, ?_, T, T1, T2, T3, T4, ?_⟩
  · have : (o + k) % 8 < 8 := Nat.mod_lt _ (by omega)
    simp only [List.mem_cons, List.not_mem_nil, or_false]; omega
  · rw [hF.i (i := 89) (by decide)]; exact (eH k hk).2.2
  · rw [hF.i (i := 0) (by decide), hF.i (i := 91) (by decide)]; exact hct
  · rw [hF.i (i := 104) (by decide)]; exact T4'.2
theorem x_in127 (a : Int32) (σ : St) : f_X5_within a (0 : Int32) (127 : Int32) σ = some (bI (inR a 0 127), σ) := x_within a 0 127 σ
theorem y_in127 (a : Int32) (σ : St) : f_X6_in a.toInt64 (0 : Int64) (127 : Int64) σ = some (bI (inR a 0 127), σ) := y_in a 0 127 σ
theorem op_type (h : IN N σ 0 0 0) (a : Int32) : OE N (f_X5_type a σ) (f_X6_type a) := by
  have h0 := h
  obtain ⟨-, -, -, -, -, T, T1, T2, T3, T4, -⟩ := h
  unfold OE f_X5_type
  refine ho_be (x_in127 a σ) ?_
  try dsimp only
  by_cases g : inR a 0 127 = true
  · rw [g]
    have gb := inR_b g
    have e120 : (120 : Int32).toInt = 120 := rfl
    unfold f_X3_isFull f_X3_append
    rw [T2]
    refine ho_f (by decide) ?_
    by_cases full : T < 120
    · rw [if_pos (i_lt.mpr (by rw [nI_t (by omega)]; omega))]
      refine ho_be rfl (ho_t rfl ?_)
      try dsimp only
      rw [T2, nI31 (by omega)]
      unfold chk nm
      rw [if_pos (ib_nI (by omega) (by omega))]
      try dsimp only
      rw [sI_ne _ _ _ (show 3 ≠ 4 by decide), T2, show nI T + (1 : Int32) = nI (T + 1) from nI_1 T]
      refine ho_be rfl (ho_some ?_)
      try dsimp only
      unfold f_X6_type
      refine ho_be (y_in127 a _) ?_
      try dsimp only
      rw [g]
      refine ho_f (by decide) ?_
      have e87 : (sI (sI σ 4 T a) 3 2 (nI (T + 1))).1 87 = σ.1 87 := by rw [sI_ne _ _ _ (by decide), sI_ne _ _ _ (by decide)]
      rw [e87, T3, nI31 (by omega)]
      refine ho_f (fun w => by have := nI_inj (b := 120) (by omega) (by omega) w; omega) (ho_chk (ib_nI (by omega) (by omega)) (ho_nm (ho_nm (ho_some ?_))))
      rw [sI_ne _ _ _ (show 87 ≠ 92 by decide), e87, T3, show nI T + (1 : Int32) = nI (T + 1) from nI_1 T, sI_at, sI_at]
      have F : Fr [3, 4, 87, 92] σ (sI (sI (sI (sI σ 4 T a) 3 2 (nI (T + 1))) 92 T a) 87 6 (nI (T + 1))) := (((Fr.refl.sI (by decide)).sI (by decide)).sI (by decide)).sI (by decide)
      refine ⟨rfl, N, h0.text F ?_ (T := T + 1) (by omega) ?_ ?_ (fun k hk => ?_)⟩
      · rw [sI_off _ _ _ _ (by decide), sI_ne _ _ _ (by decide), e87]
      · rw [sI_ne _ _ _ (by decide), sI_ne _ _ _ (by decide), sI_at]
      · rw [sI_at]
      · rw [sI_ne _ _ _ (show 4 ≠ 87 by decide), sI_ne _ _ _ (show 4 ≠ 92 by decide), sI_ne _ _ _ (show 4 ≠ 3 by decide), sI_if, sI_ne _ _ _ (show 92 ≠ 87 by decide), sI_if, sI_ne _ _ _ (show 92 ≠ 3 by decide), sI_ne _ _ _ (show 92 ≠ 4 by decide)]
        by_cases e : k = T
        · rw [if_pos e, if_pos e]; exact ⟨rfl, gb⟩
        · rw [if_neg e, if_neg e]; exact T4 k (by omega)
    · rw [if_neg (fun w => by have := i_lt.mp w; rw [nI_t (by omega)] at this; omega)]
      obtain ⟨q, eq, q1, q2⟩ := x_full h0
      refine ho_be rfl (ho_f (show ¬ (1 : Int32) = 0 by decide) (ho_be eq (ho_some ?_)))
      have e := Option.some.inj ((show f_X5_full σ = some ((-4 : Int32), sI σ 0 7 ((σ.1 0 7) + (1 : Int32))) from rfl).symm.trans eq)
      have hp : q.2.1 87 6 = nI T := by
        rw [← e]
        show (sI σ 0 7 _).1 87 6 = _
        rw [sI_ne _ _ _ (show 87 ≠ 0 by decide)]; exact T3
      unfold f_X6_type
      refine ho_be (y_in127 a _) ?_
      try dsimp only
      rw [g, hp]
      exact ho_f (by decide) (ho_t (by rw [show T = 120 by omega]; rfl) (ho_bind (y_full q2) (fun r hr => ho_some ⟨by rw [hr.1, q1], N, hr.2⟩)))
  · have g' := bf_of g
    rw [g']
    refine ho_t rfl (ho_bind (x_bad h0) (fun q hq => ho_some ?_))
    unfold f_X6_type
    refine ho_be (y_in127 a q.2) ?_
    try dsimp only
    rw [g']
    exact ho_t rfl (ho_bind (y_bad hq.2) (fun r hr => ho_some ⟨by rw [hr.1, hq.1], N, hr.2⟩))
theorem op_clear (h : IN N σ 0 0 0) : OE N (f_X5_clear σ) f_X6_clear := by
  have h0 := h
  obtain ⟨-, -, -, -, -, T, T1, T2, T3, T4, -⟩ := h
  unfold OE f_X5_clear f_X3_empty nm
  try dsimp only
  refine ho_be rfl (ho_some ?_)
  unfold f_X6_clear
  refine ho_nm (ho_nm (ho_some ⟨?_, N, h0.text (T := 0) ((Fr.refl.sI (by decide)).sI (by decide)) ?_ (by omega) ?_ ?_ (fun k hk => absurd hk (Nat.not_lt_zero k))⟩))
  · show (sI σ 3 2 0).1 87 6 = σ.1 3 2
    rw [sI_ne _ _ _ (by decide), T2, T3]
  · rw [sI_off _ _ _ _ (by decide), sI_ne _ _ _ (by decide)]
  · rw [sI_ne _ _ _ (by decide), sI_at]; rfl
  · rw [sI_at]; rfl
/-- what told answers -/
theorem x_told {x y z : Int32} (h : IN N σ x y z) {a : Int32} (ha : inR a 0 6 = true) : ∃ v, f_X5_told a σ = some (v, σ) := by
  unfold f_X5_told
  rcases in06 ha with w | w | w | w | w | w | w <;> (subst w; exact ⟨_, rfl⟩)
theorem y_toldOf (h : IN N σ 0 0 0) {a : Int32} (ha : inR a 0 6 = true) {τ : St} (ht : IN N τ 0 0 0) (h0 : τ.1 0 = σ.1 0) (h1 : τ.1 1 = σ.1 1) (h3 : τ.1 3 2 = σ.1 3 2) : f_X6_toldOf a τ = (f_X5_told a σ).map (fun q => (q.1, τ)) := by
  obtain ⟨-, hG', hM', ⟨o, p, H, -, -, -, e2, e3, -⟩, ⟨c1, c2, c3⟩, T, T1, T2, T3, -⟩ := ht
  obtain ⟨-, hG, -⟩ := h
  have z0 : ∀ u : Int32, u + 0 = u := fun u => by grind
  rw [z0] at c1 c2 c3
  unfold f_X6_toldOf f_X5_told
  rcases in06 ha with w | w | w | w | w | w | w
  · subst w
    show some (τ.1 91 0, τ) = some (σ.1 0 5, τ)
    rw [← h0, c1]
  · subst w
    show some (τ.1 91 1, τ) = some (σ.1 0 6, τ)
    rw [← h0, c2]
  · subst w
    show some (τ.1 91 2, τ) = some (σ.1 0 7, τ)
    rw [← h0, c3]
  · subst w
    show some (τ.1 88 0, τ) = some (σ.1 24 6, τ)
    rw [hM'.1, hG.1]
  · subst w
    show some (τ.1 88 1, τ) = some (σ.1 24 7, τ)
    rw [hM'.2.1, hG.2.1]
  · subst w
    show some (τ.1 87 6, τ) = some (σ.1 3 2, τ)
    rw [T3, ← h3, T2]
  · subst w
    show some (τ.1 87 3, τ) = some (σ.1 1 2, τ)
    rw [e3, ← h1, e2]
theorem op_told (h : IN N σ 0 0 0) (a : Int32) : OE N (f_X5_told a σ) (f_X6_told a) := by
  unfold OE
  by_cases g : inR a 0 6 = true
  · obtain ⟨v, ev⟩ := x_told h g
    rw [ev]
    refine ho_some ?_
    unfold f_X6_told
    refine ho_be (y_in6 a σ) ?_
    try dsimp only
    rw [g]
    refine ho_f (by decide) ?_
    rw [y_toldOf h g h rfl rfl rfl, ev]
    exact ho_some ⟨rfl, N, h⟩
  · have g' := bf_of g
    have ne : ∀ k : Nat, k ≤ 6 → ¬ a = nI k := fun k hk e => by
      rw [e] at g'
      have : inR (nI k) 0 6 = true := by unfold inR; rw [nI_t (by omega)]; exact decide_eq_true (by omega)
      rw [g'] at this
      cases this
    unfold f_X5_told
    refine ho_f (ne 0 (by omega)) (ho_f (ne 1 (by omega)) (ho_f (ne 2 (by omega)) (ho_f (ne 3 (by omega)) (ho_f (ne 4 (by omega)) (ho_f (ne 5 (by omega)) (ho_f (ne 6 (by omega)) (ho_bind (x_bad h) (fun q hq => ho_some ?_))))))))
    unfold f_X6_told
    refine ho_be (y_in6 a q.2) ?_
    try dsimp only
    rw [g']
    exact ho_t rfl (ho_bind (y_bad hq.2) (fun r hr => ho_some ⟨by rw [hr.1, hq.1], N, hr.2⟩))
end Bk
