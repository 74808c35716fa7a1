/-! the ranking of pairs; ranked, pair -/
section Rp
variable {N : Net} {σ : St}
theorem x_rankPairs (h : IN N σ 0 0 0) : Ho (f_X5_rankPairs σ) (fun τ => Fr CS σ τ ∧ RK true τ (RP N (nL N))) := by
  have hN := h.NV
  have hm := hN.2.2.1
  have inner : ∀ {K : St → Option St} {Q : St → Prop} {j : Nat}, j < nL N → (∀ τ, Fr CS σ τ → RK true τ (RP N (j + 1)) → Ho (K τ) Q) → ∀ (e d fuel : Nat) (τ : St), j + 1 + d + e = nL N → e < fuel → Fr CS σ τ → RK true τ (RQ N j (RP N j) d) → Ho (f_X5_rankPairs_25 (nI j) K fuel (nI (j + 1 + d)) τ) Q := by
    intro K Q j hj hK e
    induction e with
    | zero =>
      intro d fuel τ hd hf hF hR
      obtain ⟨fuel, rfl⟩ : ∃ f, fuel = f + 1 := ⟨fuel - 1, by omega⟩
      rw [f_X5_rankPairs_25, (h.q hF).CG.2.1]
      refine ho_t (nI_ge' (by omega) (by omega)) (hK τ hF ?_)
      rw [RP, show nL N - (j + 1) = d by omega]
      exact hR
    | succ e ih =>
      intro d fuel τ hd hf hF hR
      obtain ⟨fuel, rfl⟩ : ∃ f, fuel = f + 1 := ⟨fuel - 1, by omega⟩
      have hk : j + 1 + d < nL N := by omega
      have hτ := h.q hF
      have nx : ∀ υ, Fr CS σ υ → RK true υ (RQ N j (RP N j) (d + 1)) → Ho (f_X5_rankPairs_25 (nI j) K fuel (nI (j + 1 + d) + 1) υ) Q := fun υ a b => by
        rw [nI_1]
        exact ih (d + 1) fuel υ (by omega) (by omega) a b
      rw [f_X5_rankPairs_25, hτ.CG.2.1, nI31 (k := j) (by omega), nI31 (k := j + 1 + d) (by omega), hτ.e30 hj, hτ.e30 hk]
      refine ho_f (nI_nge' (by omega) (by omega)) (ho_chk (ib_nI (by omega) (by omega)) ?_)
      by_cases c1 : eO N j = true
      · refine ho_f (by rw [c1]; decide) (ho_chk (ib_nI (by omega) (by omega)) ?_)
        by_cases c2 : eO N (j + 1 + d) = true
        · refine ho_f (by rw [c2]; decide) ?_
          have q := x_rank (two := true) hτ hj hk (fun w => by cases w) (RQ_45 hN hk c1 c2) hR
          exact ho_bind q (fun υ hυ => nx υ (hF.trans hυ.1) (by rw [RQ, if_pos ⟨c1, c2⟩]; exact hυ.2))
        · exact ho_t (by rw [bf_of c2]; rfl) (nx τ hF (by rw [RQ, if_neg (fun w => c2 w.2)]; exact hR))
      · exact ho_t (by rw [bf_of c1]; rfl) (nx τ hF (by rw [RQ, if_neg (fun w => c1 w.1)]; exact hR))
  have loop : ∀ (d j fuel : Nat) (τ : St), j + d = nL N → d < fuel → Fr CS σ τ → RK true τ (RP N j) → Ho (f_X5_rankPairs_10 (fun (σ19 : St) => some σ19) fuel (nI j) τ) (fun τ => Fr CS σ τ ∧ RK true τ (RP N (nL N))) := by
    intro d
    induction d with
    | zero =>
      intro j fuel τ hd hf hF hR
      obtain ⟨fuel, rfl⟩ : ∃ f, fuel = f + 1 := ⟨fuel - 1, by omega⟩
      have e : j = nL N := by omega
      subst e
      rw [f_X5_rankPairs_10, (h.q hF).CG.2.1]
      exact ho_t (nI_ge' (Nat.le_refl _) (by omega)) (ho_some ⟨hF, hR⟩)
    | succ d ih =>
      intro j fuel τ hd hf hF hR
      obtain ⟨fuel, rfl⟩ : ∃ f, fuel = f + 1 := ⟨fuel - 1, by omega⟩
      have hj : j < nL N := by omega
      rw [f_X5_rankPairs_10, (h.q hF).CG.2.1, show nI j + (1 : Int32) = nI (j + 1) from nI_1 j]
      refine ho_f (nI_nge' (by omega) (by omega)) (ho_nm ?_)
      exact inner (Q := fun τ => Fr CS σ τ ∧ RK true τ (RP N (nL N))) hj (fun υ a b => ih (j + 1) fuel υ (by omega) (by omega) a b) (nL N - (j + 1)) 0 1000 τ (by omega) (by omega) hF hR
  unfold f_X5_rankPairs
  exact ho_nm (loop (nL N) 0 1000 _ (by omega) (by omega) (Fr.refl.sI (by decide)) ⟨sI_at _ _ _ _, fun k hk => absurd hk (Nat.not_lt_zero k)⟩)
theorem y_ranksAll1 (h : IN N σ 0 0 0) : Ho (f_X6_ranksAll (1 : Int32) σ) (fun τ => QM σ τ ∧ RM τ (RP N (nL N))) := by
  have hN := h.NV
  have hm := hN.2.2.1
  have inner : ∀ {K : St → Option St} {Q : St → Prop} {j : Nat}, j < nL N → (∀ τ, QM σ τ → RM τ (RP N (j + 1)) → Ho (K τ) Q) → ∀ (e d fuel : Nat) (τ : St), j + 1 + d + e = nL N → e < fuel → QM σ τ → RM τ (RQ N j (RP N j) d) → Ho (f_X6_ranksAll_34 (1 : Int32) (nI j) K fuel (nI (j + 1 + d)) τ) Q := by
    intro K Q j hj hK e
    induction e with
    | zero =>
      intro d fuel τ hd hf hF hR
      obtain ⟨fuel, rfl⟩ : ∃ f, fuel = f + 1 := ⟨fuel - 1, by omega⟩
      rw [f_X6_ranksAll_34, show (1 : Int32).toNatClampNeg = 1 from rfl, (h.m hF).MG.2.1]
      refine ho_jn (ho_f (by decide) (ho_t (nI_ge' (by omega) (by omega)) (hK τ hF ?_)))
      rw [RP, show nL N - (j + 1) = d by omega]
      exact hR
    | succ e ih =>
      intro d fuel τ hd hf hF hR
      obtain ⟨fuel, rfl⟩ : ∃ f, fuel = f + 1 := ⟨fuel - 1, by omega⟩
      have hk : j + 1 + d < nL N := by omega
      have hτ := h.m hF
      have nx : ∀ υ, QM σ υ → RM υ (RQ N j (RP N j) (d + 1)) → Ho (f_X6_ranksAll_34 (1 : Int32) (nI j) K fuel (nI (j + 1 + d) + 1) υ) Q := fun υ a b => by
        rw [nI_1]
        exact ih (d + 1) fuel υ (by omega) (by omega) a b
      rw [f_X6_ranksAll_34, show (1 : Int32).toNatClampNeg = 1 from rfl, hτ.MG.2.1]
      refine ho_jn (ho_f (by decide) (ho_f (nI_nge' (by omega) (by omega)) (ho_be (y_isIn hN hτ.MG hj) ?_)))
      try dsimp only
      by_cases c1 : eO N j = true
      · refine ho_f (by rw [c1]; decide) (ho_be (y_isIn hN hτ.MG hk) ?_)
        try dsimp only
        by_cases c2 : eO N (j + 1 + d) = true
        · refine ho_f (by rw [c2]; decide) ?_
          exact ho_bind (y_ranks hτ hj hk (RQ_45 hN hk c1 c2) hR) (fun υ hυ => nx υ (hF.trans hυ.1) (by rw [RQ, if_pos ⟨c1, c2⟩]; exact hυ.2))
        · exact ho_t (by rw [bf_of c2]; rfl) (nx τ hF (by rw [RQ, if_neg (fun w => c2 w.2)]; exact hR))
      · exact ho_t (by rw [bf_of c1]; rfl) (nx τ hF (by rw [RQ, if_neg (fun w => c1 w.1)]; exact hR))
  have loop : ∀ (d j fuel : Nat) (τ : St), j + d = nL N → d < fuel → QM σ τ → RM τ (RP N j) → Ho (f_X6_ranksAll_12 (1 : Int32) (fun (σ25 : St) => some σ25) fuel (nI j) τ) (fun τ => QM σ τ ∧ RM τ (RP N (nL N))) := by
    intro d
    induction d with
    | zero =>
      intro j fuel τ hd hf hF hR
      obtain ⟨fuel, rfl⟩ : ∃ f, fuel = f + 1 := ⟨fuel - 1, by omega⟩
      have e : j = nL N := by omega
      subst e
      rw [f_X6_ranksAll_12, show (1 : Int32).toNatClampNeg = 1 from rfl, (h.m hF).MG.2.1]
      exact ho_t (nI_ge' (Nat.le_refl _) (by omega)) (ho_some ⟨hF, hR⟩)
    | succ d ih =>
      intro j fuel τ hd hf hF hR
      obtain ⟨fuel, rfl⟩ : ∃ f, fuel = f + 1 := ⟨fuel - 1, by omega⟩
      have hj : j < nL N := by omega
      rw [f_X6_ranksAll_12, show (1 : Int32).toNatClampNeg = 1 from rfl, (h.m hF).MG.2.1, show nI j + (1 : Int32) = nI (j + 1) from nI_1 j]
      refine ho_f (nI_nge' (by omega) (by omega)) (ho_jn (ho_f (by decide) ?_))
      try dsimp only
      exact inner (Q := fun τ => QM σ τ ∧ RM τ (RP N (nL N))) hj (fun υ a b => ih (j + 1) fuel υ (by omega) (by omega) a b) (nL N - (j + 1)) 0 1000 τ (by omega) (by omega) hF hR
  unfold f_X6_ranksAll
  refine ho_nm (ho_nm (loop (nL N) 0 1000 _ (by omega) (by omega) ⟨(Fr.refl.sI (by decide)).sI (by decide), ?_, ?_⟩ ⟨?_, sI_at _ _ _ _, fun k hk => absurd hk (Nat.not_lt_zero k)⟩))
  · rw [sI_off _ _ _ _ (by decide), sI_off _ _ _ _ (by decide)]
  · rw [sI_off _ _ _ _ (by decide), sI_off _ _ _ _ (by decide)]
  · rw [sI_off _ _ _ _ (by decide), sI_at]; rfl
theorem x_serving (h : IN N σ 0 0 0) : f_X0_serving 0 σ = some (nI (svN N (nL N)), σ) := by
  have hN := h.NV
  have hm := hN.2.2.1
  have loop : ∀ (d l fuel : Nat), l + d = nL N → d < fuel → Ho (f_X0_serving_4 0 (fun (x9 : Int32) (σ10 : St) => some (x9, σ10)) fuel (nI (svN N l)) (nI l) σ) (fun q => q = (nI (svN N (nL N)), σ)) := by
    intro d
    induction d with
    | zero =>
      intro l fuel hd hf
      obtain ⟨fuel, rfl⟩ : ∃ f, fuel = f + 1 := ⟨fuel - 1, by omega⟩
      have e : l = nL N := by omega
      subst e
      rw [f_X0_serving_4, show (24 + 7 * 0) = 24 from rfl, h.CG.2.1]
      exact ho_t (nI_ge' (Nat.le_refl _) (by omega)) (ho_some rfl)
    | succ d ih =>
      intro l fuel hd hf
      obtain ⟨fuel, rfl⟩ : ∃ f, fuel = f + 1 := ⟨fuel - 1, by omega⟩
      have hlt : l < nL N := by omega
      rw [f_X0_serving_4, show (24 + 7 * 0) = 24 from rfl, show (24 + 6) = 30 from rfl, h.CG.2.1, nI31 (k := l) (by omega), h.e30 hlt]
      refine ho_f (nI_nge' (by omega) (by omega)) (ho_chk (ib_nI (by omega) (by omega)) ?_)
      by_cases hO : eO N l = true
      · refine ho_f (by rw [hO]; decide) ?_
        have q := ih (l + 1) fuel (by omega) (by omega)
        rw [svN, if_pos hO] at q
        rw [nI_1, nI_1]
        exact q
      · refine ho_t (by rw [bf_of hO]; rfl) ?_
        have q := ih (l + 1) fuel (by omega) (by omega)
        rw [svN, if_neg hO] at q
        rw [nI_1]
        exact q
  unfold f_X0_serving
  obtain ⟨a, ha, rfl⟩ := loop (nL N) 0 1000 (by omega) (by omega)
  exact ha
theorem nI_ofN {a : Int32} (h : 0 ≤ a.toInt) : a = nI a.toInt.toNat := by
  have := fb_rng a
  exact i_ext (by rw [nI_toInt (by omega)]; omega)
theorem x_hasR {two : Bool} {s : Rs} (hR : RK two σ s) (hs : s.1 ≤ 45) {A : Nat} (hA : A < s.1) : f_X2_has (nI A) σ = some ((1 : Int32), σ) := by
  unfold f_X2_has
  have e0 : (0 : Int32).toInt = 0 := rfl
  rw [hR.1, if_neg (fun w => by have := i_lt.mp w; rw [nI_t (by omega)] at this; omega), if_neg (nI_nge' hA (by omega))]
theorem op_ranked (h : IN N σ 0 0 0) (a : Int32) : OE N (f_X5_ranked a σ) (f_X6_ranked a) := by
  have hN := h.NV
  have hm := hN.2.2.1
  have e0 : (0 : Int32).toInt = 0 := rfl
  have sl := svN_le N (nL N)
  have en := RLs_n N (nL N)
  unfold OE f_X5_ranked
  by_cases c0 : 0 ≤ a
  · have c0' := i_le.mp c0
    refine ho_t c0 (ho_be (x_serving h) ?_)
    try dsimp only
    by_cases c1 : a < nI (svN N (nL N))
    · have c1' := i_lt.mp c1
      rw [nI_t (by omega)] at c1'
      have eA := nI_ofN (a := a) (by omega)
      have hA : a.toInt.toNat < svN N (nL N) := by omega
      generalize a.toInt.toNat = A at eA hA
      subst eA
      refine ho_t c1 (ho_bind (x_rankLines h) (fun τ hτ => ?_))
      obtain ⟨F, hR⟩ := hτ
      refine ho_be (x_hasR hR (by omega) (by omega)) ?_
      try dsimp only
      refine ho_f (by decide) (ho_chk (ib_nI (by omega) (by omega)) (ho_some ?_))
      rw [nI31 (by omega), (hR.2 A (by omega)).1]
      unfold f_X6_ranked
      refine ho_t c0 (ho_bind (y_ranksAll0 (h.q F)) (fun υ hυ => ?_))
      obtain ⟨Q, r1, r2, r3⟩ := hυ
      rw [r1, en]
      refine ho_f (nI_nge' hA (by omega)) (ho_chk (ib_nI (by omega) (by omega)) (ho_some ⟨?_, N, (h.q F).m Q⟩))
      rw [nI31 (by omega), (r3 A (by omega)).1]
    · have c1' : ¬ a.toInt < (nI (svN N (nL N))).toInt := fun w => c1 (i_lt.mpr w)
      refine ho_f c1 (ho_some ?_)
      unfold f_X6_ranked
      refine ho_t c0 (ho_bind (y_ranksAll0 h) (fun υ hυ => ?_))
      obtain ⟨Q, r1, r2, r3⟩ := hυ
      rw [r1, en]
      exact ho_t (i_le.mpr (by omega)) (ho_some ⟨rfl, N, h.m Q⟩)
  · refine ho_f c0 (ho_bind (x_bad h) (fun q hq => ho_some ?_))
    unfold f_X6_ranked
    exact ho_f c0 (ho_bind (y_bad hq.2) (fun r hr => ho_some ⟨by rw [hr.1, hq.1], N, hr.2⟩))
theorem half : ∀ s, s < 11 → (nI s * (nI s - (1 : Int32))) / (2 : Int32) = nI (s * (s - 1) / 2) := by decide +kernel
theorem half2 : ∀ s, s < 11 → s * (s - 1) / 2 * 2 = s * s - s ∧ s ≤ s * s := by decide +kernel
theorem RP_n2 (hN : NV N) : (RP N (nL N)).1 = svN N (nL N) * (svN N (nL N) - 1) / 2 ∧ (RP N (nL N)).1 ≤ 45 := by
  have hm := hN.2.2.1
  have sl := svN_le N (nL N)
  have q := RP_n N (nL N) (Nat.le_refl _)
  have h2 := half2 (svN N (nL N)) (by omega)
  refine ⟨by omega, RP_45 (by omega) (Nat.le_refl _) q⟩
theorem op_pair (h : IN N σ 0 0 0) (a b : Int32) : OE N (f_X5_pair a b σ) (f_X6_pair a b) := by
  have hN := h.NV
  have hm := hN.2.2.1
  have e0 : (0 : Int32).toInt = 0 := rfl
  have sl := svN_le N (nL N)
  obtain ⟨en, n45⟩ := RP_n2 hN
  unfold OE f_X5_pair
  by_cases c0 : a < 0
  · refine ho_t c0 (ho_bind (x_bad h) (fun q hq => ho_some ?_))
    unfold f_X6_pair
    exact ho_t c0 (ho_bind (y_bad hq.2) (fun r hr => ho_some ⟨by rw [hr.1, hq.1], N, hr.2⟩))
  · have c0' : ¬ a.toInt < (0 : Int32).toInt := fun w => c0 (i_lt.mpr w)
    refine ho_f c0 (ho_be (x_in3 b σ) ?_)
    try dsimp only
    by_cases g2 : inR b 0 3 = true
    · rw [g2]
      refine ho_f (by decide) (ho_be (x_serving h) ?_)
      try dsimp only
      rw [half _ (by omega), ← en]
      by_cases c1 : a < nI (RP N (nL N)).1
      · have c1' := i_lt.mp c1
        rw [nI_t (by omega)] at c1'
        have eA := nI_ofN (a := a) (by omega)
        have hA : a.toInt.toNat < (RP N (nL N)).1 := by omega
        generalize a.toInt.toNat = A at eA hA
        subst eA
        refine ho_t c1 (ho_bind (x_rankPairs h) (fun τ hτ => ?_))
        obtain ⟨F, hR⟩ := hτ
        refine ho_be (x_hasR hR n45 hA) ?_
        try dsimp only
        rw [nI31 (by omega)]
        obtain ⟨z1, z2, z3⟩ := hR.2 A hA
        have ibA := ib_nI (k := A) (n := 45) (by omega) (by omega)
        have model : ∀ v : Int64, (if b = 0 then v = (nI ((RP N (nL N)).2 A).1).toInt64 else if b = 1 then v = (nI ((RP N (nL N)).2 A).2.1).toInt64 else if b = 2 then PA ((RP N (nL N)).2 A).2.2 0 v else PA ((RP N (nL N)).2 A).2.2 1 v) → Ho (f_X6_pair (nI A) b τ) (fun r => r.1 = v ∧ ∃ N', IN N' r.2 0 0 0) := by
          intro v hv
          unfold f_X6_pair
          refine ho_f c0 (ho_be (y_in3 b τ) ?_)
          try dsimp only
          rw [g2]
          refine ho_f (by decide) (ho_bind (y_ranksAll1 (h.q F)) (fun υ hυ => ?_))
          obtain ⟨Q, r1, r2, r3⟩ := hυ
          rw [r1, nI31 (by omega)]
          obtain ⟨w1, w2, w3, w4⟩ := r3 A hA
          have hυ := (h.q F).m Q
          refine ho_t c1 (ho_if (fun d0 => ho_chk ibA (ho_some ⟨?_, N, hυ⟩)) (fun d0 => ho_if (fun d1 => ho_chk ibA (ho_some ⟨?_, N, hυ⟩)) (fun d1 => ho_if (fun d2 => ho_chk ibA (ho_some ⟨?_, N, hυ⟩)) (fun d2 => ho_chk ibA (ho_some ⟨?_, N, hυ⟩)))))
          · rw [if_pos d0] at hv; rw [hv, w1]
          · rw [if_neg d0, if_pos d1] at hv; rw [hv, w2]
          · rw [if_neg d0, if_neg d1, if_pos d2] at hv
            exact PA.one (fl := 0) ⟨_, _, w4, rfl⟩ hv
          · rw [if_neg d0, if_neg d1, if_neg d2] at hv
            exact PA.one (fl := 1) ⟨_, _, w4, rfl⟩ hv
        refine ho_f (by decide) (ho_if (fun d0 => ho_chk ibA (ho_some (model _ ?_))) (fun d0 => ho_if (fun d1 => ho_chk ibA (ho_some (model _ ?_))) (fun d1 => ho_if (fun d2 => ho_chk ibA (ho_bind (z3.part 0 τ) (fun r hr => ho_some ?_))) (fun d2 => ho_chk ibA (ho_bind (z3.part 1 τ) (fun r hr => ho_some ?_))))))
        · rw [if_pos d0, z1]
        · rw [if_neg d0, if_pos d1, z2]; rfl
        · rw [hr.1]
          refine model _ ?_
          rw [if_neg d0, if_neg d1, if_pos d2]; exact hr.2
        · rw [hr.1]
          refine model _ ?_
          rw [if_neg d0, if_neg d1, if_neg d2]; exact hr.2
      · refine ho_f c1 (ho_some ?_)
        unfold f_X6_pair
        refine ho_f c0 (ho_be (y_in3 b σ) ?_)
        try dsimp only
        rw [g2]
        refine ho_f (by decide) (ho_bind (y_ranksAll1 h) (fun υ hυ => ?_))
        obtain ⟨Q, r1, r2, r3⟩ := hυ
        rw [r1]
        exact ho_f c1 (ho_some ⟨rfl, N, h.m Q⟩)
    · have g2' := bf_of g2
      rw [g2']
      refine ho_t rfl (ho_bind (x_bad h) (fun q hq => ho_some ?_))
      unfold f_X6_pair
      refine ho_f c0 (ho_be (y_in3 b q.2) ?_)
      try dsimp only
      rw [g2']
      exact ho_t rfl (ho_bind (y_bad hq.2) (fun r hr => ho_some ⟨by rw [hr.1, hq.1], N, hr.2⟩))
end Rp
