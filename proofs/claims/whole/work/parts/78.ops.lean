/-! begins, feeds, line, drops, switches, sets -/
section Cg
variable {N : Net} {σ τ : St}
theorem x_canHave (a : Int32) (τ : St) : f_X0_canHave a τ = some (bI (inR a 2 6), τ) := by
  unfold f_X0_canHave
  rw [x_within]
  show chk (decide (bI (inR a 2 6) = 0 ∨ bI (inR a 2 6) = 1)) (some (bI (inR a 2 6), τ)) = _
  cases inR a 2 6 <;> rfl
theorem y_areBuses (a : Int32) (τ : St) : f_X6_areBuses a τ = some (bI (inR a 2 6), τ) := by
  unfold f_X6_areBuses
  rw [y_in]
  show chk (decide (bI (inR a 2 6) = 0 ∨ bI (inR a 2 6) = 1)) (some (bI (inR a 2 6), τ)) = _
  cases inR a 2 6 <;> rfl
theorem x_canInject (hN : NV N) (hG : CG τ 24 N) (a v : Int32) : f_X0_canInject 0 a v τ = some (bI (inR a 0 ((nB N : Int) - 1) && inR v (-99) 99), τ) := by
  unfold f_X0_canInject
  rw [x_hasBusG hN hG]
  show (if bI (inR a 0 ((nB N : Int) - 1)) = 0 then _ else _) = _
  cases inR a 0 ((nB N : Int) - 1)
  · rfl
  · show (f_X5_within v (-99) 99 τ).bind _ = _
    rw [x_within]
    show (if bI (inR v (-99) 99) = 0 then _ else _) = _
    cases inR v (-99) 99 <;> rfl
theorem y_mayFeed (hN : NV N) (hG : MG (τ.1 88) N) (a v : Int32) : f_X6_mayFeed a v τ = some (bI (inR a 0 ((nB N : Int) - 1) && inR v (-99) 99), τ) := by
  unfold f_X6_mayFeed
  rw [y_isBusG hN hG]
  show (if bI (inR a 0 ((nB N : Int) - 1)) = 0 then _ else _) = _
  cases inR a 0 ((nB N : Int) - 1)
  · rfl
  · show (f_X6_in v.toInt64 (-99) 99 τ).bind _ = _
    rw [y_in]
    show (if bI (inR v (-99) 99) = 0 then _ else _) = _
    cases inR v (-99) 99 <;> rfl
/-- may a line be told -/
def jnB (N : Net) (a b s m : Int32) : Bool := inR a 0 ((nB N : Int) - 1) && (inR b 0 ((nB N : Int) - 1) && (!decide (a = b) && (inR s 1 5 && inR m 1 999)))
theorem x_canJoin (hN : NV N) (hG : CG τ 24 N) (a b s m : Int32) : f_X0_canJoin 0 a b s m τ = some (bI (jnB N a b s m), τ) := by
  unfold f_X0_canJoin jnB
  rw [x_hasBusG hN hG]
  show (if bI (inR a 0 ((nB N : Int) - 1)) = 0 then _ else _) = _
  cases inR a 0 ((nB N : Int) - 1)
  · rfl
  · show (f_X0_hasBus 0 b τ).bind _ = _
    rw [x_hasBusG hN hG]
    show (if bI (inR b 0 ((nB N : Int) - 1)) = 0 then _ else _) = _
    cases inR b 0 ((nB N : Int) - 1)
    · rfl
    · show (if a = b then _ else _) = _
      by_cases e : a = b
      · rw [if_pos e, decide_eq_true e]; rfl
      · rw [if_neg e, decide_eq_false e]
        show (f_X5_within s 1 5 τ).bind _ = _
        rw [x_within]
        show (if bI (inR s 1 5) = 0 then _ else _) = _
        cases inR s 1 5
        · rfl
        · show (f_X5_within m 1 999 τ).bind _ = _
          rw [x_within]
          show (if bI (inR m 1 999) = 0 then _ else _) = _
          cases inR m 1 999 <;> rfl
theorem y_isLineTold (hN : NV N) (hG : MG (τ.1 88) N) (a b s m : Int32) : f_X6_isLineTold a b s m τ = some (bI (jnB N a b s m), τ) := by
  unfold f_X6_isLineTold jnB
  rw [y_isBusG hN hG]
  show (if bI (inR a 0 ((nB N : Int) - 1)) = 0 then _ else _) = _
  cases inR a 0 ((nB N : Int) - 1)
  · rfl
  · show (f_X6_isBus b τ).bind _ = _
    rw [y_isBusG hN hG]
    show (if bI (inR b 0 ((nB N : Int) - 1)) = 0 then _ else _) = _
    cases inR b 0 ((nB N : Int) - 1)
    · rfl
    · show (if a = b then _ else _) = _
      by_cases e : a = b
      · rw [if_pos e, decide_eq_true e]; rfl
      · rw [if_neg e, decide_eq_false e]
        show (f_X6_in s.toInt64 1 5 τ).bind _ = _
        rw [y_in]
        show (if bI (inR s 1 5) = 0 then _ else _) = _
        cases inR s 1 5
        · rfl
        · show (f_X6_in m.toInt64 1 999 τ).bind _ = _
          rw [y_in]
          show (if bI (inR m 1 999) = 0 then _ else _) = _
          cases inR m 1 999 <;> rfl
theorem x_canStrengthen (hN : NV N) (hG : CG τ 24 N) (a v : Int32) : f_X0_canStrengthen 0 a v τ = some (bI (inR a 0 ((nL N : Int) - 1) && inR v 1 5), τ) := by
  unfold f_X0_canStrengthen
  rw [x_hasLineG hN hG]
  show (if bI (inR a 0 ((nL N : Int) - 1)) = 0 then _ else _) = _
  cases inR a 0 ((nL N : Int) - 1)
  · rfl
  · show (f_X5_within v 1 5 τ).bind _ = _
    rw [x_within]
    show (if bI (inR v 1 5) = 0 then _ else _) = _
    cases inR v 1 5 <;> rfl
theorem x_canBound (hN : NV N) (hG : CG τ 24 N) (a v : Int32) : f_X0_canBound 0 a v τ = some (bI (inR a 0 ((nL N : Int) - 1) && inR v 1 999), τ) := by
  unfold f_X0_canBound
  rw [x_hasLineG hN hG]
  show (if bI (inR a 0 ((nL N : Int) - 1)) = 0 then _ else _) = _
  cases inR a 0 ((nL N : Int) - 1)
  · rfl
  · show (f_X5_within v 1 999 τ).bind _ = _
    rw [x_within]
    show (if bI (inR v 1 999) = 0 then _ else _) = _
    cases inR v 1 999 <;> rfl
theorem y_maySet (hN : NV N) (hG : MG (τ.1 88) N) (a w v : Int32) : f_X6_maySet a w v τ = some (bI (inR a 0 ((nL N : Int) - 1) && (inR w 0 1 && (if w = 0 then inR v 1 5 else inR v 1 999))), τ) := by
  unfold f_X6_maySet
  rw [y_isLineG hN hG]
  show (if bI (inR a 0 ((nL N : Int) - 1)) = 0 then _ else _) = _
  cases inR a 0 ((nL N : Int) - 1)
  · rfl
  · show (f_X6_in w.toInt64 0 1 τ).bind _ = _
    rw [y_flag]
    show (if bI (inR w 0 1) = 0 then _ else _) = _
    cases inR w 0 1
    · rfl
    · show (if w = 0 then _ else _) = _
      by_cases e : w = 0
      · rw [if_pos e, if_pos e]
        show (f_X6_in v.toInt64 1 5 τ).bind _ = _
        rw [y_in]
        show (if bI (inR v 1 5) = 0 then _ else _) = _
        cases inR v 1 5 <;> rfl
      · rw [if_neg e, if_neg e]
        show (f_X6_in v.toInt64 1 999 τ).bind _ = _
        rw [y_in]
        show (if bI (inR v 1 999) = 0 then _ else _) = _
        cases inR v 1 999 <;> rfl
theorem inR_b {a : Int32} {lo hi : Int} (h : inR a lo hi = true) : lo ≤ a.toInt ∧ a.toInt ≤ hi := of_decide_eq_true h
theorem G0_CW {υ : St} (h : Fr G0 τ υ) : Fr CW τ υ ∧ υ.1 3 2 = τ.1 3 2 := ⟨h.mono (by decide), by rw [h.i (i := 3) (by decide)]⟩
theorem M88_MW {υ : St} (h : Fr [88] τ υ) : Fr MW τ υ ∧ υ.1 87 3 = τ.1 87 3 ∧ υ.1 87 6 = τ.1 87 6 := ⟨h.mono (by decide), by rw [h.i (i := 87) (by decide)], by rw [h.i (i := 87) (by decide)]⟩
theorem op_begins (h : IN N σ 0 0 0) (a : Int32) : OE N (f_X5_begins a σ) (f_X6_begins a) := by
  have hN := h.NV
  unfold OE f_X5_begins
  refine ho_be (x_canHave a σ) ?_
  try dsimp only
  by_cases g : inR a 2 6 = true
  · rw [g]
    refine ho_f (by decide) ?_
    have gb := inR_b g
    have eA := nI_ofN (a := a) (by omega)
    have h1 : 2 ≤ a.toInt.toNat ∧ a.toInt.toNat ≤ 6 := by omega
    generalize a.toInt.toNat = n at eA h1
    subst eA
    refine ho_mono (op_chg h (hN.beg h1.1 h1.2) (v := nI (nB N)) (fm := fun q4 => (f_X6_beginsNow (nI n) q4).bind (fun q5 => some (q5.1, q5.2))) (fun τ _ hG => ho_bind (x_restart hG n) (fun q hq => ho_some ⟨(G0_CW hq.1).1, (G0_CW hq.1).2, hq.2⟩)) (fun τ _ _ hG => ho_bind (y_beginsNow hG n) (fun q hq => ho_some ⟨(M88_MW hq.1).1, (M88_MW hq.1).2.1, (M88_MW hq.1).2.2, hq.2⟩))) (fun q hq => ?_)
    unfold f_X6_begins
    refine ho_be (y_areBuses _ q.2) ?_
    try dsimp only
    rw [g]
    exact ho_f (by decide) (ho_mono hq.2.2 (fun r hr => ⟨by rw [hr.1, hq.1], hr.2⟩))
  · have g' := bf_of g
    rw [g']
    refine ho_t rfl (ho_bind (x_bad h) (fun q hq => ho_some ?_))
    unfold f_X6_begins
    refine ho_be (y_areBuses a q.2) ?_
    try dsimp only
    rw [g']
    exact ho_t rfl (ho_bind (y_bad hq.2) (fun r hr => ho_some ⟨by rw [hr.1, hq.1], N, hr.2⟩))
theorem op_feeds (h : IN N σ 0 0 0) (a b : Int32) : OE N (f_X5_feeds a b σ) (f_X6_feeds a b) := by
  have hN := h.NV
  have hn := hN.2.1
  unfold OE f_X5_feeds
  refine ho_be (x_canInject hN h.CG a b) ?_
  try dsimp only
  by_cases g : (inR a 0 ((nB N : Int) - 1) && inR b (-99) 99) = true
  · rw [g]
    refine ho_f (by decide) ?_
    have g0 := g
    rw [Bool.and_eq_true] at g0
    obtain ⟨i, hi, rfl⟩ := inR_nI g0.1
    have gb := inR_b g0.2
    have eb := iI_of b
    generalize b.toInt = v at eb gb
    subst eb
    refine ho_mono (op_chg h (hN.feed i gb.1 gb.2) (v := iI (eQ N i)) (fm := fun q4 => chk (ib ((2 : Int32) + nI i) 58) (nm (q4.1 88 ((2 : Int32) + nI i).toNatClampNeg) (fun x6 : Int32 => nm (sI q4 88 ((2 : Int32) + nI i).toNatClampNeg (iI v)) (fun σ7 : St => some (x6, σ7))))) (fun τ _ hG => ho_bind (x_inject hG (by omega) v) (fun q hq => ho_some ⟨(G0_CW hq.1).1, (G0_CW hq.1).2, hq.2⟩)) (fun τ _ _ hG => ho_mono (y_feedNow hN hG (by omega) v) (fun q hq => ⟨(M88_MW hq.1).1, (M88_MW hq.1).2.1, (M88_MW hq.1).2.2, hq.2⟩))) (fun q hq => ?_)
    unfold f_X6_feeds
    refine ho_be (y_mayFeed hN hq.2.1 _ _) ?_
    try dsimp only
    rw [g]
    exact ho_f (by decide) (ho_mono hq.2.2 (fun r hr => ⟨by rw [hr.1, hq.1], hr.2⟩))
  · have g' := bf_of g
    rw [g']
    refine ho_t rfl (ho_bind (x_bad h) (fun q hq => ho_some ?_))
    unfold f_X6_feeds
    refine ho_be (y_mayFeed hN hq.2.MG a b) ?_
    try dsimp only
    rw [g']
    exact ho_t rfl (ho_bind (y_bad hq.2) (fun r hr => ho_some ⟨by rw [hr.1, hq.1], N, hr.2⟩))
theorem op_line (h : IN N σ 0 0 0) (a b s m : Int32) : OE N (f_X5_line a b s m σ) (f_X6_line a b s m) := by
  have hN := h.NV
  have hn := hN.2.1
  have hm := hN.2.2.1
  unfold OE f_X5_line
  refine ho_be (x_canJoin hN h.CG a b s m) ?_
  try dsimp only
  by_cases g : jnB N a b s m = true
  · rw [g]
    refine ho_f (by decide) ?_
    unfold f_X0_isFull
    rw [show (24 + 7 * 0) = 24 from rfl, h.CG.2.1]
    have e10 : (10 : Int32).toInt = 10 := rfl
    by_cases full : nL N < 10
    · rw [if_pos (i_lt.mpr (by rw [nI_t (by omega)]; omega))]
      refine ho_be rfl (ho_t rfl ?_)
      have g0 := g
      unfold jnB at g0
      simp only [Bool.and_eq_true] at g0
      obtain ⟨c1, c2, c3, c4, c5⟩ := g0
      obtain ⟨i, hi, rfl⟩ := inR_nI c1
      obtain ⟨j, hj, rfl⟩ := inR_nI c2
      have b4 := inR_b c4
      have b5 := inR_b c5
      have hij : i ≠ j := fun e => by rw [e] at c3; simp at c3
      have es := iI_of s
      have em := iI_of m
      generalize s.toInt = v at es b4
      generalize m.toInt = w at em b5
      subst es
      subst em
      refine ho_mono (op_chg h (hN.join full hi hj hij b4.1 b4.2 b5.1 b5.2) (v := nI (nL N)) (fm := fun q5 => (f_X6_lineNow (nI i) (nI j) (iI v) (iI w) q5).bind (fun q6 => some (q6.1, q6.2))) (fun τ _ hG => ho_bind (x_join hN hG full i j v w) (fun q hq => ho_some ⟨(G0_CW hq.1).1, (G0_CW hq.1).2, hq.2⟩)) (fun τ _ _ hG => ho_bind (y_lineNow hN hG full i j v w) (fun q hq => ho_some ⟨(M88_MW hq.1).1, (M88_MW hq.1).2.1, (M88_MW hq.1).2.2, hq.2⟩))) (fun q hq => ?_)
      unfold f_X6_line
      refine ho_be (y_isLineTold hN hq.2.1 _ _ _ _) ?_
      try dsimp only
      rw [g, show (1 : Int32).toNatClampNeg = 1 from rfl, hq.2.1.2.1]
      exact ho_f (by decide) (ho_f (fun w => by have := nI_inj (b := 10) (by omega) (by omega) w; omega) (ho_mono hq.2.2 (fun r hr => ⟨by rw [hr.1, hq.1], hr.2⟩)))
    · rw [if_neg (fun w => by have := i_lt.mp w; rw [nI_t (by omega)] at this; omega)]
      refine ho_be rfl (ho_f (show ¬ (1 : Int32) = 0 by decide) (ho_bind (x_full h) (fun q hq => ho_some ?_)))
      unfold f_X6_line
      refine ho_be (y_isLineTold hN hq.2.MG _ _ _ _) ?_
      try dsimp only
      rw [g, show (1 : Int32).toNatClampNeg = 1 from rfl, hq.2.MG.2.1]
      exact ho_f (by decide) (ho_t (by rw [show nL N = 10 by omega]; rfl) (ho_bind (y_full hq.2) (fun r hr => ho_some ⟨by rw [hr.1, hq.1], N, hr.2⟩)))
  · have g' := bf_of g
    rw [g']
    refine ho_t rfl (ho_bind (x_bad h) (fun q hq => ho_some ?_))
    unfold f_X6_line
    refine ho_be (y_isLineTold hN hq.2.MG _ _ _ _) ?_
    try dsimp only
    rw [g']
    exact ho_t rfl (ho_bind (y_bad hq.2) (fun r hr => ho_some ⟨by rw [hr.1, hq.1], N, hr.2⟩))
theorem op_drops (h : IN N σ 0 0 0) (a : Int32) : OE N (f_X5_drops a σ) (f_X6_drops a) := by
  have hN := h.NV
  unfold OE f_X5_drops
  refine ho_be (x_hasLine h a) ?_
  try dsimp only
  by_cases g : inR a 0 ((nL N : Int) - 1) = true
  · rw [g]
    refine ho_f (by decide) ?_
    obtain ⟨l, hl, rfl⟩ := inR_nI g
    refine ho_mono (op_chg h (hN.drop l) (v := nI (nL N - 1)) (fm := fun q4 => (f_X6_dropsNow (nI l) q4).bind (fun q5 => some (q5.1, q5.2))) (fun τ _ hG => ho_bind (x_remove hN hG hl) (fun q hq => ho_some ⟨(G0_CW hq.1).1, (G0_CW hq.1).2, hq.2⟩)) (fun τ _ _ hG => ho_bind (y_dropsNow hN hG hl) (fun q hq => ho_some ⟨(M88_MW hq.1).1, (M88_MW hq.1).2.1, (M88_MW hq.1).2.2, hq.2⟩))) (fun q hq => ?_)
    unfold f_X6_drops
    refine ho_be (y_isLineG hN hq.2.1 _) ?_
    try dsimp only
    rw [g]
    exact ho_f (by decide) (ho_mono hq.2.2 (fun r hr => ⟨by rw [hr.1, hq.1], hr.2⟩))
  · have g' := bf_of g
    rw [g']
    refine ho_t rfl (ho_bind (x_bad h) (fun q hq => ho_some ?_))
    unfold f_X6_drops
    refine ho_be (y_isLine hq.2 a) ?_
    try dsimp only
    rw [g']
    exact ho_t rfl (ho_bind (y_bad hq.2) (fun r hr => ho_some ⟨by rw [hr.1, hq.1], N, hr.2⟩))
theorem flag_b {b : Int32} (h : inR b 0 1 = true) : b = bI (decide (b = 1)) := by
  obtain ⟨k, hk, rfl⟩ := inR_nI (n := 2) h
  have : k = 0 ∨ k = 1 := by omega
  rcases this with w | w <;> (subst w; decide)
theorem op_switches (h : IN N σ 0 0 0) (a b : Int32) : OE N (f_X5_switches a b σ) (f_X6_switches a b) := by
  have hN := h.NV
  unfold OE f_X5_switches
  refine ho_be (x_hasLine h a) ?_
  try dsimp only
  by_cases g : inR a 0 ((nL N : Int) - 1) = true
  · rw [g]
    refine ho_f (by decide) (ho_be (x_flag b σ) ?_)
    try dsimp only
    by_cases g2 : inR b 0 1 = true
    · rw [g2]
      refine ho_f (by decide) ?_
      obtain ⟨l, hl, rfl⟩ := inR_nI g
      have eb := flag_b g2
      refine ho_mono (op_chg h (hN.turn l (decide (b = 1))) (v := bI (eO N l)) (fm := fun q7 => (f_X6_becomes (nI l) (4 : Int32) b q7).bind (fun q8 => some (q8.1, q8.2))) (fun τ _ hG => ?_) (fun τ _ _ hG => ?_)) (fun q hq => ?_)
      · refine ho_if (fun c => ?_) (fun c => ?_)
        · have t := x_turn hN hG hl (decide (b = 1))
          rw [decide_eq_true c] at t ⊢
          exact ho_bind t (fun q hq => ho_some ⟨(G0_CW hq.1).1, (G0_CW hq.1).2, hq.2⟩)
        · have t := x_turn hN hG hl (decide (b = 1))
          rw [decide_eq_false c] at t ⊢
          exact ho_bind t (fun q hq => ho_some ⟨(G0_CW hq.1).1, (G0_CW hq.1).2, hq.2⟩)
      · have t : Fr [88] τ (sI τ 88 (8 + 5 * l + 4) b) := Fr.refl.sI (by decide)
        refine ho_be (y_becomes (w := 4) hN hl (by omega) b) (ho_some ⟨(M88_MW t).1, (M88_MW t).2.1, (M88_MW t).2.2, ?_, (hG.2.2.2 l hl).2.2.2.2⟩)
        have q := MG_turn hN hG hl (decide (b = 1))
        rw [← eb] at q
        exact q
      · unfold f_X6_switches
        refine ho_be (y_isLineG hN hq.2.1 _) ?_
        try dsimp only
        rw [g]
        refine ho_f (by decide) (ho_be (y_flag b q.2) ?_)
        try dsimp only
        rw [g2]
        exact ho_f (by decide) (ho_mono hq.2.2 (fun r hr => ⟨by rw [hr.1, hq.1], hr.2⟩))
    · have g2' := bf_of g2
      rw [g2']
      refine ho_t rfl (ho_bind (x_bad h) (fun q hq => ho_some ?_))
      unfold f_X6_switches
      refine ho_be (y_isLine hq.2 a) ?_
      try dsimp only
      rw [g]
      refine ho_f (by decide) (ho_be (y_flag b q.2) ?_)
      try dsimp only
      rw [g2']
      exact ho_t rfl (ho_bind (y_bad hq.2) (fun r hr => ho_some ⟨by rw [hr.1, hq.1], N, hr.2⟩))
  · have g' := bf_of g
    rw [g']
    refine ho_t rfl (ho_bind (x_bad h) (fun q hq => ho_some ?_))
    unfold f_X6_switches
    refine ho_be (y_isLine hq.2 a) ?_
    try dsimp only
    rw [g']
    exact ho_t rfl (ho_bind (y_bad hq.2) (fun r hr => ho_some ⟨by rw [hr.1, hq.1], N, hr.2⟩))
theorem op_sets (h : IN N σ 0 0 0) (a w b : Int32) : OE N (f_X5_sets a w b σ) (f_X6_sets a w b) := by
  have hN := h.NV
  unfold OE f_X5_sets
  -- refused on both sides
  have ref : (inR a 0 ((nL N : Int) - 1) && (inR w 0 1 && (if w = 0 then inR b 1 5 else inR b 1 999))) = false → ∀ (τ : St), τ = σ → Ho ((f_X5_bad τ).bind (fun q14 => some (q14.1, q14.2))) (fun q => Ho (f_X6_sets a w b q.2) (fun r => r.1 = q.1 ∧ ∃ N', IN N' r.2 0 0 0)) := by
    intro g τ e
    subst e
    refine ho_bind (x_bad h) (fun q hq => ho_some ?_)
    unfold f_X6_sets
    refine ho_be (y_maySet hN hq.2.MG a w b) ?_
    try dsimp only
    rw [g]
    exact ho_t rfl (ho_bind (y_bad hq.2) (fun r hr => ho_some ⟨by rw [hr.1, hq.1], N, hr.2⟩))
  refine ho_be (x_flag w σ) ?_
  try dsimp only
  by_cases g1 : inR w 0 1 = true
  · rw [g1] at ref ⊢
    refine ho_f (by decide) ?_
    by_cases c : w = 0
    · subst c
      rw [if_pos rfl] at ref
      refine ho_t rfl (ho_be (x_canStrengthen hN h.CG a b) ?_)
      try dsimp only
      by_cases g : (inR a 0 ((nL N : Int) - 1) && inR b 1 5) = true
      · rw [g]
        refine ho_f (by decide) ?_
        have g0 := g
        rw [Bool.and_eq_true] at g0
        obtain ⟨l, hl, rfl⟩ := inR_nI g0.1
        have gb := inR_b g0.2
        have eb := iI_of b
        generalize b.toInt = v at eb gb
        subst eb
        refine ho_mono (op_chg h (hN.str l gb.1 gb.2) (v := iI (eS N l)) (fm := fun q4 => (f_X6_becomes (nI l) ((2 : Int32) + (0 : Int32)) (iI v) q4).bind (fun q5 => some (q5.1, q5.2))) (fun τ _ hG => ho_bind (x_strengthen hN hG hl v) (fun q hq => ho_some ⟨(G0_CW hq.1).1, (G0_CW hq.1).2, hq.2⟩)) (fun τ _ _ hG => ?_)) (fun q hq => ?_)
        · have t : Fr [88] τ (sI τ 88 (8 + 5 * l + 2) (iI v)) := Fr.refl.sI (by decide)
          exact ho_be (y_becomes (w := 2) hN hl (by omega) (iI v)) (ho_some ⟨(M88_MW t).1, (M88_MW t).2.1, (M88_MW t).2.2, MG_str hN hG hl v, (hG.2.2.2 l hl).2.2.1⟩)
        · unfold f_X6_sets
          refine ho_be (y_maySet hN hq.2.1 _ _ _) ?_
          try dsimp only
          rw [g1, if_pos rfl, Bool.true_and, g]
          exact ho_f (by decide) (ho_mono hq.2.2 (fun r hr => ⟨by rw [hr.1, hq.1], hr.2⟩))
      · have g' := bf_of g
        rw [g']
        exact ho_t rfl (ref (by rw [Bool.true_and]; exact g') σ rfl)
    · rw [if_neg c] at ref
      refine ho_f c (ho_be (x_canBound hN h.CG a b) ?_)
      try dsimp only
      have c1 : w = 1 := by
        obtain ⟨k, hk, rfl⟩ := inR_nI (n := 2) g1
        have : k = 0 ∨ k = 1 := by omega
        rcases this with z | z
        · subst z; exact absurd rfl c
        · subst z; rfl
      subst c1
      by_cases g : (inR a 0 ((nL N : Int) - 1) && inR b 1 999) = true
      · rw [g]
        refine ho_f (by decide) ?_
        have g0 := g
        rw [Bool.and_eq_true] at g0
        obtain ⟨l, hl, rfl⟩ := inR_nI g0.1
        have gb := inR_b g0.2
        have eb := iI_of b
        generalize b.toInt = v at eb gb
        subst eb
        refine ho_mono (op_chg h (hN.bnd l gb.1 gb.2) (v := iI (eM N l)) (fm := fun q4 => (f_X6_becomes (nI l) ((2 : Int32) + (1 : Int32)) (iI v) q4).bind (fun q5 => some (q5.1, q5.2))) (fun τ _ hG => ho_bind (x_bound hN hG hl v) (fun q hq => ho_some ⟨(G0_CW hq.1).1, (G0_CW hq.1).2, hq.2⟩)) (fun τ _ _ hG => ?_)) (fun q hq => ?_)
        · have t : Fr [88] τ (sI τ 88 (8 + 5 * l + 3) (iI v)) := Fr.refl.sI (by decide)
          exact ho_be (y_becomes (w := 3) hN hl (by omega) (iI v)) (ho_some ⟨(M88_MW t).1, (M88_MW t).2.1, (M88_MW t).2.2, MG_bnd hN hG hl v, (hG.2.2.2 l hl).2.2.2.1⟩)
        · unfold f_X6_sets
          refine ho_be (y_maySet hN hq.2.1 _ _ _) ?_
          try dsimp only
          rw [g1, if_neg (show ¬ (1 : Int32) = 0 by decide), Bool.true_and, g]
          exact ho_f (by decide) (ho_mono hq.2.2 (fun r hr => ⟨by rw [hr.1, hq.1], hr.2⟩))
      · have g' := bf_of g
        rw [g']
        exact ho_t rfl (ref (by rw [Bool.true_and]; exact g') σ rfl)
  · have g1' := bf_of g1
    rw [g1']
    refine ho_t rfl (ref ?_ σ rfl)
    rw [g1']
    cases inR a 0 ((nL N : Int) - 1) <;> rfl
end Cg
