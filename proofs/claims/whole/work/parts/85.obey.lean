/-! a command is obeyed, on both sides -/
section Ob
variable {N : Net} {τ : St}
def nN (a : Int32) : Nat := a.toInt.toNat
theorem nN_of {a : Int32} {n : Nat} (h : inR a 0 ((n : Int) - 1) = true) : a = nI (nN a) ∧ nN a < n := by
  have := inR_b h
  refine ⟨nI_ofN (by omega), ?_⟩
  unfold nN
  omega
/-- what a command does -/
def obN (N : Net) (k : Nat) (g : Nat → Int32) : Bool × Net :=
  if k = 0 then (if (inR (g 0) 0 ((nB N : Int) - 1) && inR (g 1) (-99) 99) = true then (true, nFeed N (nN (g 0)) (g 1).toInt) else (false, N))
  else if k = 1 then (if (jnB N (g 0) (g 1) (g 2) (g 3) && decide (nL N < 10)) = true then (true, nJoin N (nN (g 0)) (nN (g 1)) (g 2).toInt (g 3).toInt) else (false, N))
  else if k = 2 then (if inR (g 0) 0 ((nL N : Int) - 1) = true then (true, nTurn N (nN (g 0)) false) else (false, N))
  else if k = 3 then (if inR (g 0) 0 ((nL N : Int) - 1) = true then (true, nTurn N (nN (g 0)) true) else (false, N))
  else if k = 4 then (if (inR (g 0) 0 ((nL N : Int) - 1) && inR (g 1) 1 999) = true then (true, nBnd N (nN (g 0)) (g 1).toInt) else (false, N))
  else if k = 5 then (if (inR (g 0) 0 ((nL N : Int) - 1) && inR (g 1) 1 5) = true then (true, nStr N (nN (g 0)) (g 1).toInt) else (false, N))
  else if k = 6 then (if inR (g 0) 0 ((nL N : Int) - 1) = true then (true, nDrop N (nN (g 0))) else (false, N))
  else (if inR (g 0) 2 6 = true then (true, nBeg N (nN (g 0))) else (false, N))
theorem jn_get {a b s m : Int32} (h : jnB N a b s m = true) : (a = nI (nN a) ∧ nN a < nB N) ∧ (b = nI (nN b) ∧ nN b < nB N) ∧ nN a ≠ nN b ∧ (1 ≤ s.toInt ∧ s.toInt ≤ 5) ∧ (1 ≤ m.toInt ∧ m.toInt ≤ 999) := by
  unfold jnB at h
  simp only [Bool.and_eq_true] at h
  obtain ⟨c1, c2, c3, c4, c5⟩ := h
  have a1 := nN_of c1
  have b1 := nN_of c2
  refine ⟨a1, b1, fun e => ?_, inR_b c4, inR_b c5⟩
  have : a = b := by rw [a1.1, b1.1, e]
  rw [this] at c3
  simp at c3
theorem obN_NV (hN : NV N) (k : Nat) (g : Nat → Int32) : NV (obN N k g).2 := by
  unfold obN
  split
  · split
    · rename_i c
      rw [Bool.and_eq_true] at c
      have := inR_b c.2
      exact hN.feed _ this.1 this.2
    · exact hN
  · split
    · split
      · rename_i c
        rw [Bool.and_eq_true] at c
        obtain ⟨⟨-, a1⟩, ⟨-, b1⟩, hne, s1, m1⟩ := jn_get c.1
        exact hN.join (of_decide_eq_true c.2) a1 b1 hne s1.1 s1.2 m1.1 m1.2
      · exact hN
    · split
      · split
        · exact hN.turn _ _
        · exact hN
      · split
        · split
          · exact hN.turn _ _
          · exact hN
        · split
          · split
            · rename_i c
              rw [Bool.and_eq_true] at c
              have := inR_b c.2
              exact hN.bnd _ this.1 this.2
            · exact hN
          · split
            · split
              · rename_i c
                rw [Bool.and_eq_true] at c
                have := inR_b c.2
                exact hN.str _ this.1 this.2
              · exact hN
            · split
              · split
                · exact hN.drop _
                · exact hN
              · split
                · rename_i c
                  have := inR_b c
                  exact hN.beg (by unfold nN; omega) (by unfold nN; omega)
                · exact hN
theorem ob0 {g : Nat → Int32} (c : (inR (g 0) 0 ((nB N : Int) - 1) && inR (g 1) (-99) 99) = true) : obN N 0 g = (true, nFeed N (nN (g 0)) (g 1).toInt) := by unfold obN; rw [if_pos rfl, if_pos c]
theorem ob0n {g : Nat → Int32} (c : (inR (g 0) 0 ((nB N : Int) - 1) && inR (g 1) (-99) 99) = false) : obN N 0 g = (false, N) := by unfold obN; rw [if_pos rfl, if_neg (by rw [c]; decide)]
theorem ob1 {g : Nat → Int32} (c : (jnB N (g 0) (g 1) (g 2) (g 3) && decide (nL N < 10)) = true) : obN N 1 g = (true, nJoin N (nN (g 0)) (nN (g 1)) (g 2).toInt (g 3).toInt) := by unfold obN; rw [if_neg (by decide), if_pos rfl, if_pos c]
theorem ob1n {g : Nat → Int32} (c : (jnB N (g 0) (g 1) (g 2) (g 3) && decide (nL N < 10)) = false) : obN N 1 g = (false, N) := by unfold obN; rw [if_neg (by decide), if_pos rfl, if_neg (by rw [c]; decide)]
theorem ob2 {g : Nat → Int32} (c : inR (g 0) 0 ((nL N : Int) - 1) = true) : obN N 2 g = (true, nTurn N (nN (g 0)) false) := by unfold obN; rw [if_neg (by decide), if_neg (by decide), if_pos rfl, if_pos c]
theorem ob2n {g : Nat → Int32} (c : inR (g 0) 0 ((nL N : Int) - 1) = false) : obN N 2 g = (false, N) := by unfold obN; rw [if_neg (by decide), if_neg (by decide), if_pos rfl, if_neg (by rw [c]; decide)]
theorem ob3 {g : Nat → Int32} (c : inR (g 0) 0 ((nL N : Int) - 1) = true) : obN N 3 g = (true, nTurn N (nN (g 0)) true) := by unfold obN; rw [if_neg (by decide), if_neg (by decide), if_neg (by decide), if_pos rfl, if_pos c]
theorem ob3n {g : Nat → Int32} (c : inR (g 0) 0 ((nL N : Int) - 1) = false) : obN N 3 g = (false, N) := by unfold obN; rw [if_neg (by decide), if_neg (by decide), if_neg (by decide), if_pos rfl, if_neg (by rw [c]; decide)]
theorem ob4 {g : Nat → Int32} (c : (inR (g 0) 0 ((nL N : Int) - 1) && inR (g 1) 1 999) = true) : obN N 4 g = (true, nBnd N (nN (g 0)) (g 1).toInt) := by unfold obN; rw [if_neg (by decide), if_neg (by decide), if_neg (by decide), if_neg (by decide), if_pos rfl, if_pos c]
theorem ob4n {g : Nat → Int32} (c : (inR (g 0) 0 ((nL N : Int) - 1) && inR (g 1) 1 999) = false) : obN N 4 g = (false, N) := by unfold obN; rw [if_neg (by decide), if_neg (by decide), if_neg (by decide), if_neg (by decide), if_pos rfl, if_neg (by rw [c]; decide)]
theorem ob5 {g : Nat → Int32} (c : (inR (g 0) 0 ((nL N : Int) - 1) && inR (g 1) 1 5) = true) : obN N 5 g = (true, nStr N (nN (g 0)) (g 1).toInt) := by unfold obN; rw [if_neg (by decide), if_neg (by decide), if_neg (by decide), if_neg (by decide), if_neg (by decide), if_pos rfl, if_pos c]
theorem ob5n {g : Nat → Int32} (c : (inR (g 0) 0 ((nL N : Int) - 1) && inR (g 1) 1 5) = false) : obN N 5 g = (false, N) := by unfold obN; rw [if_neg (by decide), if_neg (by decide), if_neg (by decide), if_neg (by decide), if_neg (by decide), if_pos rfl, if_neg (by rw [c]; decide)]
theorem ob6 {g : Nat → Int32} (c : inR (g 0) 0 ((nL N : Int) - 1) = true) : obN N 6 g = (true, nDrop N (nN (g 0))) := by unfold obN; rw [if_neg (by decide), if_neg (by decide), if_neg (by decide), if_neg (by decide), if_neg (by decide), if_neg (by decide), if_pos rfl, if_pos c]
theorem ob6n {g : Nat → Int32} (c : inR (g 0) 0 ((nL N : Int) - 1) = false) : obN N 6 g = (false, N) := by unfold obN; rw [if_neg (by decide), if_neg (by decide), if_neg (by decide), if_neg (by decide), if_neg (by decide), if_neg (by decide), if_pos rfl, if_neg (by rw [c]; decide)]
theorem ob7 {g : Nat → Int32} (c : inR (g 0) 2 6 = true) : obN N 7 g = (true, nBeg N (nN (g 0))) := by unfold obN; rw [if_neg (by decide), if_neg (by decide), if_neg (by decide), if_neg (by decide), if_neg (by decide), if_neg (by decide), if_neg (by decide), if_pos c]
theorem ob7n {g : Nat → Int32} (c : inR (g 0) 2 6 = false) : obN N 7 g = (false, N) := by unfold obN; rw [if_neg (by decide), if_neg (by decide), if_neg (by decide), if_neg (by decide), if_neg (by decide), if_neg (by decide), if_neg (by decide), if_neg (by rw [c]; decide)]
theorem chT : decide (bI true = 0 ∨ bI true = 1) = true := by decide
theorem chF : decide (bI false = 0 ∨ bI false = 1) = true := by decide
theorem two_b {b : Bool} {X : Option (Int32 × St)} : chk (decide (bI b = 0 ∨ bI b = 1)) X = X := by
  unfold chk
  cases b <;> rfl
abbrev XP (N : Net) (τ : St) (o : Bool × Net) (q : Int32 × St) : Prop := Fr G0 τ q.2 ∧ CG q.2 24 o.2 ∧ q.1 = bI o.1
theorem x_obeysShort (hN : NV N) (hG : CG τ 24 N) {k : Nat} (hk : k = 2 ∨ k = 3 ∨ k = 6 ∨ k = 7) (g : Nat → Int32) : Ho (f_X5_obeysShort (nI k) (g 0) τ) (fun q => XP N τ (obN N k g) q) := by
  unfold f_X5_obeysShort
  rcases hk with e | e | e | e
  · subst e
    refine ho_f (by decide) (ho_be (x_hasLineG hN hG _) ?_)
    try dsimp only
    by_cases c : inR (g 0) 0 ((nL N : Int) - 1) = true
    · obtain ⟨e1, e2⟩ := nN_of c
      rw [ob2 c, c]
      have t := x_turn hN hG e2 false
      rw [← e1] at t
      exact ho_f (by decide) (ho_f (by decide) (ho_f (by decide) (ho_bind t (fun q hq => ho_some ⟨hq.1, hq.2.1, rfl⟩))))
    · rw [ob2n (bf_of c), bf_of c]
      exact ho_t rfl (ho_some ⟨Fr.refl, hG, rfl⟩)
  · subst e
    refine ho_f (by decide) (ho_be (x_hasLineG hN hG _) ?_)
    try dsimp only
    by_cases c : inR (g 0) 0 ((nL N : Int) - 1) = true
    · obtain ⟨e1, e2⟩ := nN_of c
      rw [ob3 c, c]
      have t := x_turn hN hG e2 true
      rw [← e1] at t
      exact ho_f (by decide) (ho_f (by decide) (ho_t (by decide) (ho_bind t (fun q hq => ho_some ⟨hq.1, hq.2.1, rfl⟩))))
    · rw [ob3n (bf_of c), bf_of c]
      exact ho_t rfl (ho_some ⟨Fr.refl, hG, rfl⟩)
  · subst e
    refine ho_f (by decide) (ho_be (x_hasLineG hN hG _) ?_)
    try dsimp only
    by_cases c : inR (g 0) 0 ((nL N : Int) - 1) = true
    · obtain ⟨e1, e2⟩ := nN_of c
      rw [ob6 c, c]
      have t := x_remove hN hG e2
      rw [← e1] at t
      exact ho_f (by decide) (ho_t (by decide) (ho_bind t (fun q hq => ho_some ⟨hq.1, hq.2.1, rfl⟩)))
    · rw [ob6n (bf_of c), bf_of c]
      exact ho_t rfl (ho_some ⟨Fr.refl, hG, rfl⟩)
  · subst e
    refine ho_t (by decide) (ho_be (x_canHave _ τ) ?_)
    try dsimp only
    by_cases c : inR (g 0) 2 6 = true
    · have e1 : g 0 = nI (nN (g 0)) := nI_ofN (by have := inR_b c; omega)
      rw [ob7 c, c]
      have t := x_restart hG (nN (g 0))
      rw [← e1] at t
      exact ho_f (by decide) (ho_bind t (fun q hq => ho_some ⟨hq.1, hq.2.1, rfl⟩))
    · rw [ob7n (bf_of c), bf_of c]
      exact ho_t rfl (ho_some ⟨Fr.refl, hG, rfl⟩)
theorem x_obeys (hN : NV N) (hG : CG τ 24 N) {k : Nat} (hk : k < 8) {g : Nat → Int32} (hg : ∀ i, i < manyN k → τ.1 5 i = g i) : Ho (f_X5_obeys (nI k) τ) (fun q => XP N τ (obN N k g) q) := by
  have hm := hN.2.2.1
  unfold f_X5_obeys
  rw [show (0 : Int32).toNatClampNeg = 0 from rfl, show (1 : Int32).toNatClampNeg = 1 from rfl, show (2 : Int32).toNatClampNeg = 2 from rfl, show (3 : Int32).toNatClampNeg = 3 from rfl]
  refine ho_nm (ho_nm ?_)
  have short : ∀ j : Nat, (j = 2 ∨ j = 3 ∨ j = 6 ∨ j = 7) → k = j → Ho ((f_X5_obeysShort (nI j) (τ.1 5 0) τ).bind (fun q38 => chk (decide (q38.1 = 0 ∨ q38.1 = 1)) (some (q38.1, q38.2)))) (fun q => XP N τ (obN N k g) q) := by
    intro j hj e
    subst e
    have m1 : 0 < manyN k := by rcases hj with e | e | e | e <;> (subst e; decide)
    rw [hg 0 m1]
    refine ho_bind (x_obeysShort hN hG hj g) (fun q hq => ?_)
    obtain ⟨h1, h2, h3⟩ := hq
    rw [h3, two_b]
    exact ho_some ⟨h1, h2, rfl⟩
  have : k = 0 ∨ k = 1 ∨ k = 2 ∨ k = 3 ∨ k = 4 ∨ k = 5 ∨ k = 6 ∨ k = 7 := by omega
  rcases this with e | e | e | e | e | e | e | e
  · subst e
    rw [hg 0 (by decide), hg 1 (by decide)]
    refine ho_t (by decide) (ho_be (x_canInject hN hG _ _) ?_)
    try dsimp only
    by_cases c : (inR (g 0) 0 ((nB N : Int) - 1) && inR (g 1) (-99) 99) = true
    · have c2 := c
      rw [Bool.and_eq_true] at c2
      obtain ⟨e1, e2⟩ := nN_of c2.1
      rw [ob0 c, c]
      have t := x_inject hG (i := nN (g 0)) (by have := hN.2.1; omega) (g 1).toInt
      rw [← e1, iI_of] at t
      exact ho_f (by decide) (ho_bind t (fun q hq => ho_chk chT (ho_some ⟨hq.1, hq.2.1, rfl⟩)))
    · rw [ob0n (bf_of c), bf_of c]
      exact ho_t rfl (ho_chk chF (ho_some ⟨Fr.refl, hG, rfl⟩))
  · subst e
    rw [hg 0 (by decide), hg 1 (by decide), hg 2 (by decide), hg 3 (by decide)]
    refine ho_f (by decide) (ho_t (by decide) (ho_be (x_canJoin hN hG _ _ _ _) ?_))
    try dsimp only
    refine ho_jnP (fun p : Int32 × St => p = (bI (jnB N (g 0) (g 1) (g 2) (g 3) && decide (nL N < 10)), τ)) (fun p hp => ?_) (fun j hj => ?_)
    · subst hp
      try dsimp only
      rw [hg 2 (by decide), hg 3 (by decide)]
      by_cases c : (jnB N (g 0) (g 1) (g 2) (g 3) && decide (nL N < 10)) = true
      · have c2 := c
        rw [Bool.and_eq_true] at c2
        obtain ⟨a1, b1, -⟩ := jn_get c2.1
        rw [ob1 c, c]
        have t := x_join hN hG (of_decide_eq_true c2.2) (nN (g 0)) (nN (g 1)) (g 2).toInt (g 3).toInt
        rw [← a1.1, ← b1.1, iI_of, iI_of] at t
        exact ho_f (by decide) (ho_bind t (fun q hq => ho_chk chT (ho_some ⟨hq.1, hq.2.1, rfl⟩)))
      · rw [ob1n (bf_of c), bf_of c]
        exact ho_t rfl (ho_chk chF (ho_some ⟨Fr.refl, hG, rfl⟩))
    · cases hj0 : jnB N (g 0) (g 1) (g 2) (g 3)
      · rw [hj0] at hj
        exact ho_t rfl (hj _ rfl)
      · rw [hj0, Bool.true_and] at hj
        refine ho_f (by decide) ?_
        unfold f_X0_isFull
        rw [show (24 + 7 * 0) = 24 from rfl, hG.2.1]
        by_cases f : nL N < 10
        · rw [if_pos (show nI (nL N) < (10 : Int32) from nI_lt' (b := 10) f (by omega))]
          rw [decide_eq_true f] at hj
          exact ho_be rfl (ho_t rfl (hj _ rfl))
        · rw [if_neg (show ¬ nI (nL N) < (10 : Int32) from nI_nlt' (b := 10) (by omega) (by omega))]
          rw [decide_eq_false f] at hj
          exact ho_be rfl (ho_f (show ¬ (1 : Int32) = 0 by decide) (hj _ rfl))
  · exact (by subst e; exact ho_f (by decide) (ho_f (by decide) (ho_t (by decide) (short 2 (by omega) rfl))))
  · exact (by subst e; exact ho_f (by decide) (ho_f (by decide) (ho_f (by decide) (ho_t (by decide) (short 3 (by omega) rfl)))))
  · subst e
    rw [hg 0 (by decide), hg 1 (by decide)]
    refine ho_f (by decide) (ho_f (by decide) (ho_f (by decide) (ho_f (by decide) (ho_t (by decide) (ho_be (x_canBound hN hG _ _) ?_)))))
    try dsimp only
    by_cases c : (inR (g 0) 0 ((nL N : Int) - 1) && inR (g 1) 1 999) = true
    · have c2 := c
      rw [Bool.and_eq_true] at c2
      obtain ⟨e1, e2⟩ := nN_of c2.1
      rw [ob4 c, c]
      have t := x_bound hN hG e2 (g 1).toInt
      rw [← e1, iI_of] at t
      exact ho_f (by decide) (ho_bind t (fun q hq => ho_chk chT (ho_some ⟨hq.1, hq.2.1, rfl⟩)))
    · rw [ob4n (bf_of c), bf_of c]
      exact ho_t rfl (ho_chk chF (ho_some ⟨Fr.refl, hG, rfl⟩))
  · subst e
    rw [hg 0 (by decide), hg 1 (by decide)]
    refine ho_f (by decide) (ho_f (by decide) (ho_f (by decide) (ho_f (by decide) (ho_f (by decide) (ho_t (by decide) (ho_be (x_canStrengthen hN hG _ _) ?_))))))
    try dsimp only
    by_cases c : (inR (g 0) 0 ((nL N : Int) - 1) && inR (g 1) 1 5) = true
    · have c2 := c
      rw [Bool.and_eq_true] at c2
      obtain ⟨e1, e2⟩ := nN_of c2.1
      rw [ob5 c, c]
      have t := x_strengthen hN hG e2 (g 1).toInt
      rw [← e1, iI_of] at t
      exact ho_f (by decide) (ho_bind t (fun q hq => ho_chk chT (ho_some ⟨hq.1, hq.2.1, rfl⟩)))
    · rw [ob5n (bf_of c), bf_of c]
      exact ho_t rfl (ho_chk chF (ho_some ⟨Fr.refl, hG, rfl⟩))
  · exact (by subst e; exact ho_f (by decide) (ho_f (by decide) (ho_f (by decide) (ho_f (by decide) (ho_f (by decide) (ho_f (by decide) (short 6 (by omega) rfl)))))))
  · exact (by subst e; exact ho_f (by decide) (ho_f (by decide) (ho_f (by decide) (ho_f (by decide) (ho_f (by decide) (ho_f (by decide) (short 7 (by omega) rfl)))))))
abbrev YP (N : Net) (τ : St) (o : Bool × Net) (q : Int32 × St) : Prop := Fr [88] τ q.2 ∧ MG (q.2.1 88) o.2 ∧ q.1 = bI o.1
theorem nI_nn {n : Nat} (h : n < 1000) : ¬ nI n < 0 := fun w => by
  have := i_lt.mp w
  rw [nI_t h] at this
  have e : (0 : Int32).toInt = 0 := rfl
  omega
theorem iI_nn {v : Int} (h : 0 ≤ v) (h2 : v ≤ 1000000) : ¬ iI v < 0 := fun w => by
  have := i_lt.mp w
  rw [iI_t (by omega) (by omega)] at this
  have e : (0 : Int32).toInt = 0 := rfl
  omega
theorem bI_nn (b : Bool) : ¬ bI b < 0 := by cases b <;> decide
theorem y_isDone (hN : NV N) (hG : MG (τ.1 88) N) {k : Nat} (hk : k < 8) {g : Nat → Int32} (hg : ∀ i, i < manyN k → τ.1 105 i = g i) : Ho (f_X6_isDone (nI k) τ) (fun q => YP N τ (obN N k g) q) := by
  have hm := hN.2.2.1
  have hn := hN.2.1
  unfold f_X6_isDone
  rw [show (0 : Int32).toNatClampNeg = 0 from rfl, show (1 : Int32).toNatClampNeg = 1 from rfl, show (2 : Int32).toNatClampNeg = 2 from rfl, show (3 : Int32).toNatClampNeg = 3 from rfl]
  refine ho_nm (ho_nm ?_)
  have : k = 0 ∨ k = 1 ∨ k = 2 ∨ k = 3 ∨ k = 4 ∨ k = 5 ∨ k = 6 ∨ k = 7 := by omega
  rcases this with e | e | e | e | e | e | e | e
  · subst e
    rw [hg 0 (by decide), hg 1 (by decide)]
    refine ho_t (by decide) (ho_be (y_mayFeed hN hG _ _) ?_)
    try dsimp only
    by_cases c : (inR (g 0) 0 ((nB N : Int) - 1) && inR (g 1) (-99) 99) = true
    · have c2 := c
      rw [Bool.and_eq_true] at c2
      obtain ⟨e1, e2⟩ := nN_of c2.1
      rw [ob0 c, c]
      have t := MG_feed hN hG (i := nN (g 0)) (by omega) (g 1).toInt
      rw [iI_of] at t
      have ei : (2 : Int32) + g 0 = nI (2 + nN (g 0)) := by rw [e1, ix2, ← e1]
      rw [ei, nI31 (by omega)]
      exact ho_f (by decide) (ho_chk (ib_nI (by omega) (by omega)) (ho_nm (ho_chk chT (ho_some ⟨Fr.refl.sI (by decide), t, rfl⟩))))
    · rw [ob0n (bf_of c), bf_of c]
      exact ho_t rfl (ho_chk chF (ho_some ⟨Fr.refl, hG, rfl⟩))
  · subst e
    rw [hg 0 (by decide), hg 1 (by decide), hg 2 (by decide), hg 3 (by decide)]
    refine ho_f (by decide) (ho_t (by decide) (ho_be (y_isLineTold hN hG _ _ _ _) ?_))
    try dsimp only
    refine ho_jnP (fun p : Int32 × St => p = (bI (jnB N (g 0) (g 1) (g 2) (g 3) && decide (nL N < 10)), τ)) (fun p hp => ?_) (fun j hj => ?_)
    · subst hp
      try dsimp only
      rw [hg 2 (by decide), hg 3 (by decide)]
      by_cases c : (jnB N (g 0) (g 1) (g 2) (g 3) && decide (nL N < 10)) = true
      · have c2 := c
        rw [Bool.and_eq_true] at c2
        obtain ⟨a1, b1, -⟩ := jn_get c2.1
        rw [ob1 c, c]
        have t := y_lineNow hN hG (of_decide_eq_true c2.2) (nN (g 0)) (nN (g 1)) (g 2).toInt (g 3).toInt
        rw [← a1.1, ← b1.1, iI_of, iI_of] at t
        refine ho_f (by decide) (ho_bind t (fun q hq => ?_))
        rw [hq.2.2]
        exact ho_f (nI_nn (by omega)) (ho_some ⟨hq.1, hq.2.1, rfl⟩)
      · rw [ob1n (bf_of c), bf_of c]
        exact ho_t rfl (ho_some ⟨Fr.refl, hG, rfl⟩)
    · rw [hG.2.1]
      cases hj0 : jnB N (g 0) (g 1) (g 2) (g 3)
      · rw [hj0] at hj
        exact ho_t rfl (hj _ rfl)
      · rw [hj0, Bool.true_and] at hj
        refine ho_f (by decide) ?_
        by_cases f : nL N < 10
        · rw [decide_eq_true f] at hj
          exact ho_f (nI_nge' (a := 10) f (by omega)) (hj _ rfl)
        · rw [decide_eq_false f] at hj
          exact ho_t (nI_ge' (a := 10) (by omega) (by omega)) (hj _ rfl)
  · subst e
    rw [hg 0 (by decide)]
    refine ho_f (by decide) (ho_f (by decide) (ho_t (by decide) (ho_be (y_isLineG hN hG _) ?_)))
    try dsimp only
    by_cases c : inR (g 0) 0 ((nL N : Int) - 1) = true
    · obtain ⟨e1, e2⟩ := nN_of c
      rw [ob2 c, c]
      have t := y_becomes (τ := τ) (w := 4) hN e2 (by omega) (bI false)
      rw [← e1, (hG.2.2.2 _ e2).2.2.2.2] at t
      refine ho_f (by decide) (ho_be t (ho_f (bI_nn _) (ho_some ⟨Fr.refl.sI (by decide), MG_turn hN hG e2 false, rfl⟩)))
    · rw [ob2n (bf_of c), bf_of c]
      exact ho_t rfl (ho_some ⟨Fr.refl, hG, rfl⟩)
  · subst e
    rw [hg 0 (by decide)]
    refine ho_f (by decide) (ho_f (by decide) (ho_f (by decide) (ho_t (by decide) (ho_be (y_isLineG hN hG _) ?_))))
    try dsimp only
    by_cases c : inR (g 0) 0 ((nL N : Int) - 1) = true
    · obtain ⟨e1, e2⟩ := nN_of c
      rw [ob3 c, c]
      have t := y_becomes (τ := τ) (w := 4) hN e2 (by omega) (bI true)
      rw [← e1, (hG.2.2.2 _ e2).2.2.2.2] at t
      refine ho_f (by decide) (ho_be t (ho_f (bI_nn _) (ho_some ⟨Fr.refl.sI (by decide), MG_turn hN hG e2 true, rfl⟩)))
    · rw [ob3n (bf_of c), bf_of c]
      exact ho_t rfl (ho_some ⟨Fr.refl, hG, rfl⟩)
  · subst e
    rw [hg 0 (by decide), hg 1 (by decide)]
    refine ho_f (by decide) (ho_f (by decide) (ho_f (by decide) (ho_f (by decide) (ho_t (by decide) (ho_be (y_maySet hN hG _ _ _) ?_)))))
    try dsimp only
    rw [show (5 : Int32) - nI 4 = 1 from by decide, show inR (1 : Int32) 0 1 = true by decide, if_neg (show ¬ (1 : Int32) = 0 by decide), Bool.true_and]
    by_cases c : (inR (g 0) 0 ((nL N : Int) - 1) && inR (g 1) 1 999) = true
    · have c2 := c
      rw [Bool.and_eq_true] at c2
      obtain ⟨e1, e2⟩ := nN_of c2.1
      rw [ob4 c, c]
      have t := y_becomes (τ := τ) (w := 3) hN e2 (by omega) (g 1)
      rw [← e1, (hG.2.2.2 _ e2).2.2.2.1] at t
      have mb := MG_bnd hN hG e2 (g 1).toInt
      rw [iI_of] at mb
      have lv := hN.2.2.2.2 _ e2
      refine ho_f (by decide) (ho_be t (ho_f (iI_nn (by have := lv.2.2.2.2.2; omega) (by have := lv.2.2.2.2.2; omega)) (ho_some ⟨Fr.refl.sI (by decide), mb, rfl⟩)))
    · rw [ob4n (bf_of c), bf_of c]
      exact ho_t rfl (ho_some ⟨Fr.refl, hG, rfl⟩)
  · subst e
    rw [hg 0 (by decide), hg 1 (by decide)]
    refine ho_f (by decide) (ho_f (by decide) (ho_f (by decide) (ho_f (by decide) (ho_f (by decide) (ho_t (by decide) (ho_be (y_maySet hN hG _ _ _) ?_))))))
    try dsimp only
    rw [show (5 : Int32) - nI 5 = 0 from by decide, show inR (0 : Int32) 0 1 = true by decide, if_pos rfl, Bool.true_and]
    by_cases c : (inR (g 0) 0 ((nL N : Int) - 1) && inR (g 1) 1 5) = true
    · have c2 := c
      rw [Bool.and_eq_true] at c2
      obtain ⟨e1, e2⟩ := nN_of c2.1
      rw [ob5 c, c]
      have t := y_becomes (τ := τ) (w := 2) hN e2 (by omega) (g 1)
      rw [← e1, (hG.2.2.2 _ e2).2.2.1] at t
      have mb := MG_str hN hG e2 (g 1).toInt
      rw [iI_of] at mb
      have lv := hN.2.2.2.2 _ e2
      refine ho_f (by decide) (ho_be t (ho_f (iI_nn (by have := lv.2.2.2; omega) (by have := lv.2.2.2; omega)) (ho_some ⟨Fr.refl.sI (by decide), mb, rfl⟩)))
    · rw [ob5n (bf_of c), bf_of c]
      exact ho_t rfl (ho_some ⟨Fr.refl, hG, rfl⟩)
  · subst e
    rw [hg 0 (by decide)]
    refine ho_f (by decide) (ho_f (by decide) (ho_f (by decide) (ho_f (by decide) (ho_f (by decide) (ho_f (by decide) (ho_t (by decide) (ho_be (y_isLineG hN hG _) ?_)))))))
    try dsimp only
    by_cases c : inR (g 0) 0 ((nL N : Int) - 1) = true
    · obtain ⟨e1, e2⟩ := nN_of c
      rw [ob6 c, c]
      have t := y_dropsNow hN hG e2
      rw [← e1] at t
      refine ho_f (by decide) (ho_bind t (fun q hq => ?_))
      rw [hq.2.2]
      exact ho_f (nI_nn (by omega)) (ho_some ⟨hq.1, hq.2.1, rfl⟩)
    · rw [ob6n (bf_of c), bf_of c]
      exact ho_t rfl (ho_some ⟨Fr.refl, hG, rfl⟩)
  · subst e
    rw [hg 0 (by decide)]
    refine ho_f (by decide) (ho_f (by decide) (ho_f (by decide) (ho_f (by decide) (ho_f (by decide) (ho_f (by decide) (ho_f (by decide) (ho_be (y_areBuses _ τ) ?_)))))))
    try dsimp only
    by_cases c : inR (g 0) 2 6 = true
    · have e1 : g 0 = nI (nN (g 0)) := nI_ofN (by have := inR_b c; omega)
      rw [ob7 c, c]
      have t := y_beginsNow hG (nN (g 0))
      rw [← e1] at t
      refine ho_f (by decide) (ho_bind t (fun q hq => ?_))
      rw [hq.2.2]
      exact ho_f (nI_nn (by omega)) (ho_some ⟨hq.1, hq.2.1, rfl⟩)
    · rw [ob7n (bf_of c), bf_of c]
      exact ho_t rfl (ho_some ⟨Fr.refl, hG, rfl⟩)
end Ob
