/-! the class: which lines are live, and the islands -/
theorem x_merge {σ : St} {n u v : Nat} {t : Nat → Nat} (hn : n ≤ 6) (h24 : σ.1 24 6 = nI n) (hu : u < 6) (hv : v < 6) (ht : ∀ i, i < n → t i < 6) (h8 : ∀ i, i < n → σ.1 8 i = nI (t i)) :
    Ho (f_X4_merge (nI u) (nI v) σ) (fun σ' => Fr [8] σ σ' ∧ ∀ i, i < n → σ'.1 8 i = nI (if t i = max u v then min u v else t i)) := by
  have loop : ∀ (q1 q3 : Int32 × St), q1.1 = nI (min u v) → q3.1 = nI (max u v) → ∀ (d i fuel : Nat) (τ : St), i + d = n → d < fuel → Fr [8] σ τ → (∀ j, j < i → τ.1 8 j = nI (if t j = max u v then min u v else t j)) → (∀ j, i ≤ j → j < n → τ.1 8 j = nI (t j)) → Ho (f_X4_merge_26 q1 q3 (fun z => some z) fuel (nI i) τ) (fun σ' => Fr [8] σ σ' ∧ ∀ i, i < n → σ'.1 8 i = nI (if t i = max u v then min u v else t i)) := by
    intro q1 q3 e1 e3 d
    induction d with
    | zero =>
      intro i fuel τ hid hf hF h1 h2
      obtain ⟨fuel, rfl⟩ : ∃ f, fuel = f + 1 := ⟨fuel - 1, by omega⟩
      rw [f_X4_merge_26, hF.i (i := 24) (by decide), h24]
      refine ho_t (nI_ge' (by omega) (by omega)) (ho_some ⟨hF, fun j hj => h1 j (by omega)⟩)
    | succ d ih =>
      intro i fuel τ hid hf hF h1 h2
      obtain ⟨fuel, rfl⟩ : ∃ f, fuel = f + 1 := ⟨fuel - 1, by omega⟩
      rw [f_X4_merge_26, hF.i (i := 24) (by decide), h24]
      refine ho_f (nI_nge' (by omega) (by omega)) (ho_chk (ib_nI (by omega) (by omega)) ?_)
      rw [nI31 (by omega), h2 i (Nat.le_refl i) (by omega), e3, e1, nI_1]
      have hmx : max u v < 6 := by omega
      have hti := ht i (by omega)
      refine ho_if (fun c => ho_nm ?_) (fun c => ?_)
      · have c' := nI_inj (by omega) (by omega) c
        refine ih (i + 1) fuel _ (by omega) (by omega) (hF.sI (by decide)) (fun j hj => ?_) (fun j hj hjn => ?_)
        · by_cases e : j = i
          · rw [e, sI_at, if_pos c']
          · rw [sI_off _ _ _ _ e]; exact h1 j (by omega)
        · rw [sI_off _ _ _ _ (by omega)]; exact h2 j (by omega) hjn
      · have c' : ¬ t i = max u v := fun e => c (by rw [e])
        refine ih (i + 1) fuel _ (by omega) (by omega) hF (fun j hj => ?_) (fun j hj hjn => h2 j (by omega) hjn)
        by_cases e : j = i
        · rw [e, if_neg c']; exact h2 i (Nat.le_refl i) (by omega)
        · exact h1 j (by omega)
  unfold f_X4_merge
  refine ho_jn ?_
  have fin : ∀ q1 : Int32 × St, q1.1 = nI (min u v) → q1.2 = σ → Ho (jn (fun q3 : Int32 × St => f_X4_merge_26 q1 q3 (fun (σ13 : St) => some σ13) 1000 (0 : Int32) q3.2) (fun j4 => if nI v ≤ nI u then j4 (nI u, q1.2) else j4 (nI v, q1.2))) (fun σ' => Fr [8] σ σ' ∧ ∀ i, i < n → σ'.1 8 i = nI (if t i = max u v then min u v else t i)) := by
    intro q1 e1 e2
    refine ho_jn ?_
    rw [e2]
    refine ho_if (fun c => ?_) (fun c => ?_)
    · refine loop q1 _ e1 ?_ n 0 1000 σ (by omega) (by omega) Fr.refl (fun j hj => absurd hj (Nat.not_lt_zero j)) (fun j _ hj => h8 j hj)
      have := (nI_leI (by omega) (by omega)).mp c
      show nI u = nI (max u v)
      rw [Nat.max_eq_left this]
    · refine loop q1 _ e1 ?_ n 0 1000 σ (by omega) (by omega) Fr.refl (fun j hj => absurd hj (Nat.not_lt_zero j)) (fun j _ hj => h8 j hj)
      have : ¬ v ≤ u := fun q => c ((nI_leI (by omega) (by omega)).mpr q)
      show nI v = nI (max u v)
      rw [Nat.max_eq_right (by omega)]
  refine ho_if (fun c => ?_) (fun c => ?_)
  · refine fin _ ?_ rfl
    have := (nI_leI (by omega) (by omega)).mp c
    show nI v = nI (min u v)
    rw [Nat.min_eq_right this]
  · refine fin _ ?_ rfl
    have : ¬ v ≤ u := fun q => c ((nI_leI (by omega) (by omega)).mpr q)
    show nI u = nI (min u v)
    rw [Nat.min_eq_left (by omega)]
/-- live lines, as the array 7 has them -/
def Lv7 (σ : St) (N : Net) (lv : Nat → Bool) : Prop := ∀ l, l < nL N → σ.1 7 l = bI (lv l)
theorem x_findIslands {σ : St} {N : Net} {lv : Nat → Bool} (hN : NV N) (hG : CG σ 24 N) (h7 : Lv7 σ N lv) :
    Ho (f_X4_findIslands σ) (fun σ' => Fr [8] σ σ' ∧ ∃ sl, Isl (nB N) (nL N) (eA N) (eB N) lv sl ∧ ∀ i, i < nB N → σ'.1 8 i = nI (sl i)) := by
  obtain ⟨hn2, hn6, hm, -, hl⟩ := hN
  obtain ⟨g1, g2, -, g4⟩ := hG
  have loop2 : ∀ (d l fuel : Nat) (τ : St), l + d = nL N → d < fuel → Fr [8] σ τ → (∃ sl, Isl (nB N) l (eA N) (eB N) lv sl ∧ ∀ i, i < nB N → τ.1 8 i = nI (sl i)) → Ho (f_X4_findIslands_23 (fun z => some z) fuel (nI l) τ) (fun σ' => Fr [8] σ σ' ∧ ∃ sl, Isl (nB N) (nL N) (eA N) (eB N) lv sl ∧ ∀ i, i < nB N → σ'.1 8 i = nI (sl i)) := by
    intro d
    induction d with
    | zero =>
      intro l fuel τ hld hf hF hI
      obtain ⟨fuel, rfl⟩ : ∃ f, fuel = f + 1 := ⟨fuel - 1, by omega⟩
      have e : l = nL N := by omega
      subst e
      rw [f_X4_findIslands_23, hF.i (i := 24) (by decide), g2]
      exact ho_t (nI_ge' (Nat.le_refl _) (by omega)) (ho_some ⟨hF, hI⟩)
    | succ d ih =>
      intro l fuel τ hld hf hF hI
      obtain ⟨sl, hI, h8⟩ := hI
      obtain ⟨fuel, rfl⟩ : ∃ f, fuel = f + 1 := ⟨fuel - 1, by omega⟩
      have hlm : l < nL N := by omega
      obtain ⟨q1, q2, -⟩ := g4 l hlm
      obtain ⟨v1, v2, v3, -⟩ := hl l hlm
      rw [f_X4_findIslands_23, hF.i (i := 24) (by decide), g2]
      refine ho_f (nI_nge' hlm (by omega)) (ho_chk (ib_nI (by omega) (by omega)) ?_)
      rw [nI31 (by omega), hF.i (i := 7) (by decide), h7 l hlm, hF.i (i := 26) (by decide), hF.i (i := 27) (by decide), q1, q2]
      refine ho_if (fun c => ?_) (fun c => ?_)
      · have c' := bI_0.mp c
        rw [nI_1]
        exact ih (l + 1) fuel τ (by omega) (by omega) hF ⟨sl, hI.skip c', h8⟩
      · have c' : lv l = true := by
          cases h : lv l
          · exact absurd (by rw [h]; rfl) c
          · rfl
        refine ho_chk (ib_nI (by omega) (by omega)) (ho_chk (ib_nI (by omega) (by omega)) ?_)
        rw [nI31 (by omega), nI31 (by omega), h8 _ v1, h8 _ v2]
        have b1 := hI.lt v1
        have b2 := hI.lt v2
        refine ho_bind (x_merge (n := nB N) (t := sl) (by omega) (by rw [hF.i (i := 24) (by decide)]; exact g1) (by omega) (by omega) (fun i hi => by have := hI.lt hi; omega) h8) (fun τ' hτ' => ?_)
        obtain ⟨hF', h8'⟩ := hτ'
        rw [nI_1]
        refine ih (l + 1) fuel τ' (by omega) (by omega) (hF.trans hF') ⟨_, hI.join c' v1 v2 (lo := min (sl (eA N l)) (sl (eB N l))) (hi := max (sl (eA N l)) (sl (eB N l))) ?_, h8'⟩
        omega
  have loop1 : ∀ (d i fuel : Nat) (τ : St), i + d = 6 → d < fuel → Fr [8] σ τ → (∀ j, j < i → τ.1 8 j = nI j) → Ho (f_X4_findIslands_2 (fun (σ8 : St) => f_X4_findIslands_23 (fun (σ19 : St) => some σ19) 1000 (0 : Int32) σ8) fuel (nI i) τ) (fun σ' => Fr [8] σ σ' ∧ ∃ sl, Isl (nB N) (nL N) (eA N) (eB N) lv sl ∧ ∀ i, i < nB N → σ'.1 8 i = nI (sl i)) := by
    intro d
    induction d with
    | zero =>
      intro i fuel τ hid hf hF h1
      obtain ⟨fuel, rfl⟩ : ∃ f, fuel = f + 1 := ⟨fuel - 1, by omega⟩
      rw [f_X4_findIslands_2]
      refine ho_t (nI_ge' (a := 6) (by omega) (by omega)) ?_
      exact loop2 (nL N) 0 1000 τ (by omega) (by omega) hF ⟨fun i => i, Isl.zero _ _ _ _, fun j hj => h1 j (by omega)⟩
    | succ d ih =>
      intro i fuel τ hid hf hF h1
      obtain ⟨fuel, rfl⟩ : ∃ f, fuel = f + 1 := ⟨fuel - 1, by omega⟩
      rw [f_X4_findIslands_2]
      refine ho_f (nI_nge' (a := 6) (by omega) (by omega)) (ho_chk (ib_nI (by omega) (by omega)) (ho_nm ?_))
      rw [nI31 (by omega), nI_1]
      refine ih (i + 1) fuel _ (by omega) (by omega) (hF.sI (by decide)) (fun j hj => ?_)
      by_cases e : j = i
      · rw [e, sI_at]
      · rw [sI_off _ _ _ _ e]; exact h1 j (by omega)
  unfold f_X4_findIslands
  exact loop1 6 0 1000 σ (by omega) (by omega) Fr.refl (fun j hj => absurd hj (Nat.not_lt_zero j))
/-- the lines that stay when j and k go -/
def lvX (N : Net) (j k : Int32) (l : Nat) : Bool := eO N l && (!decide (nI l = j) && !decide (nI l = k))
theorem x_take {σ : St} {N : Net} (hN : NV N) (hG : CG σ 24 N) (j k : Int32) :
    Ho (f_X4_take j k σ) (fun σ' => Fr [7, 8] σ σ' ∧ Lv7 σ' N (lvX N j k) ∧ ∃ sl, Isl (nB N) (nL N) (eA N) (eB N) (lvX N j k) sl ∧ ∀ i, i < nB N → σ'.1 8 i = nI (sl i)) := by
  have loop : ∀ (d l fuel : Nat) (τ : St), l + d = 10 → d < fuel → Fr [7] σ τ → (∀ q, q < l → q < nL N → τ.1 7 q = bI (lvX N j k q)) → Ho (f_X4_take_2 j k (fun (σ17 : St) => (f_X4_findIslands σ17).bind (fun q18 => some q18)) fuel (nI l) τ) (fun σ' => Fr [7, 8] σ σ' ∧ Lv7 σ' N (lvX N j k) ∧ ∃ sl, Isl (nB N) (nL N) (eA N) (eB N) (lvX N j k) sl ∧ ∀ i, i < nB N → σ'.1 8 i = nI (sl i)) := by
    intro d
    induction d with
    | zero =>
      intro l fuel τ hld hf hF h7
      obtain ⟨fuel, rfl⟩ : ∃ f, fuel = f + 1 := ⟨fuel - 1, by omega⟩
      rw [f_X4_take_2]
      refine ho_t (nI_ge' (a := 10) (by omega) (by omega)) ?_
      have h77 : Lv7 τ N (lvX N j k) := fun q hq => h7 q (by have := hN.2.2.1; omega) hq
      refine ho_bind (x_findIslands hN (hG.fr hF (by decide)) h77) (fun τ' h => ho_some ?_)
      obtain ⟨hF', hI⟩ := h
      refine ⟨(hF.mono (by decide)).trans (hF'.mono (by decide)), fun q hq => ?_, hI⟩
      rw [hF'.i (i := 7) (by decide)]
      exact h77 q hq
    | succ d ih =>
      intro l fuel τ hld hf hF h7
      obtain ⟨fuel, rfl⟩ : ∃ f, fuel = f + 1 := ⟨fuel - 1, by omega⟩
      have hm := hN.2.2.1
      have st : ∀ b : Bool, (l < nL N → lvX N j k l = b) → Ho (f_X4_take_2 j k (fun (σ17 : St) => (f_X4_findIslands σ17).bind (fun q18 => some q18)) fuel (nI l + 1) (sI τ 7 l (vp_nar .boolean (bI b)))) (fun σ' => Fr [7, 8] σ σ' ∧ Lv7 σ' N (lvX N j k) ∧ ∃ sl, Isl (nB N) (nL N) (eA N) (eB N) (lvX N j k) sl ∧ ∀ i, i < nB N → σ'.1 8 i = nI (sl i)) := by
        intro b hb
        rw [nI_1, bI_nar]
        refine ih (l + 1) fuel _ (by omega) (by omega) (hF.sI (by decide)) (fun q hq hqm => ?_)
        by_cases e : q = l
        · subst e; rw [sI_at, hb hqm]
        · rw [sI_off _ _ _ _ e]; exact h7 q (by omega) hqm
      rw [f_X4_take_2, hF.i (i := 24) (by decide), hF.i (i := 30) (by decide), hG.2.1, nI31 (by omega)]
      refine ho_f (nI_nge' (a := 10) (by omega) (by omega)) (ho_if (fun c => ?_) (fun c => ?_))
      · refine ho_chk (ib_nI (by omega) (by omega)) (ho_nm (st false (fun h => ?_)))
        exact absurd c (nI_nge' h (by omega))
      · have hlm : l < nL N := by
          rcases Nat.lt_or_ge l (nL N) with q | q
          · exact q
          · exact absurd (nI_ge' q (by omega)) c
        rw [(hG.2.2.2 l hlm).2.2.2.2]
        refine ho_chk (ib_nI (by omega) (by omega)) (ho_if (fun c1 => ?_) (fun c1 => ?_))
        · refine ho_nm (st false (fun _ => ?_))
          unfold lvX; rw [bI_0.mp c1]; rfl
        · have c1' : eO N l = true := by
            cases h : eO N l
            · exact absurd (by rw [h]; rfl) c1
            · rfl
          refine ho_if (fun c2 => ?_) (fun c2 => ho_if (fun c3 => ?_) (fun c3 => ?_))
          · refine ho_nm (st false (fun _ => ?_))
            unfold lvX; rw [decide_eq_true c2]; simp
          · refine ho_nm (st false (fun _ => ?_))
            unfold lvX; rw [decide_eq_true c3]; simp
          · refine ho_nm (st true (fun _ => ?_))
            unfold lvX; rw [decide_eq_false c2, decide_eq_false c3, c1']; rfl
  unfold f_X4_take
  exact loop 10 0 1000 σ (by omega) (by omega) Fr.refl (fun q hq => absurd hq (Nat.not_lt_zero q))
theorem x_joins {σ : St} {n p q : Nat} {sl : Nat → Nat} (hn : n ≤ 6) (hp : p < n) (hq : q < n) (hs : ∀ i, i < n → sl i < n) (h8 : ∀ i, i < n → σ.1 8 i = nI (sl i)) : f_X4_joins (nI p) (nI q) σ = some (bI (decide (sl p = sl q)), σ) := by
  unfold f_X4_joins chk
  rw [if_pos (ib_nI (by omega) (by omega)), if_pos (ib_nI (by omega) (by omega)), nI31 (by omega), nI31 (by omega), h8 p hp, h8 q hq]
  have := hs p hp
  have := hs q hq
  by_cases e : sl p = sl q
  · rw [if_pos (by rw [e]), decide_eq_true e]; rfl
  · rw [if_neg (nI_ne e (by omega) (by omega)), decide_eq_false e]; rfl
