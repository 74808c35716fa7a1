/-! operations that read flows, the guards by template (wip/whole/gen/ops57.py) -/
theorem y_flag (a : Int32) (σ : St) : f_X6_in a.toInt64 (0 : Int64) (1 : Int64) σ = some (bI (inR a 0 1), σ) := y_in a 0 1 σ
theorem y_in5 (a : Int32) (σ : St) : f_X6_in a.toInt64 (0 : Int64) (5 : Int64) σ = some (bI (inR a 0 5), σ) := y_in a 0 5 σ
theorem y_in3 (a : Int32) (σ : St) : f_X6_in a.toInt64 (0 : Int64) (3 : Int64) σ = some (bI (inR a 0 3), σ) := y_in a 0 3 σ
theorem y_in6 (a : Int32) (σ : St) : f_X6_in a.toInt64 (0 : Int64) (6 : Int64) σ = some (bI (inR a 0 6), σ) := y_in a 0 6 σ
theorem x_in5 (a : Int32) (σ : St) : f_X5_within a (0 : Int32) (5 : Int32) σ = some (bI (inR a 0 5), σ) := x_within a 0 5 σ
theorem x_in3 (a : Int32) (σ : St) : f_X5_within a (0 : Int32) (3 : Int32) σ = some (bI (inR a 0 3), σ) := x_within a 0 3 σ
section Op2
variable {N : Net} {σ : St}
theorem y_lineAt0 (hN : NV N) (hG : MG (σ.1 88) N) {l : Nat} (hl : l < nL N) : f_X6_lineAt (nI l) (0 : Int32) σ = some (nI (eA N l), σ) := by
  have hm := hN.2.2.1
  rw [show (0 : Int32) = nI 0 from rfl, y_lineAt (by omega) (by omega), Nat.add_zero, (hG.2.2.2 l hl).1]
theorem y_lineAt1 (hN : NV N) (hG : MG (σ.1 88) N) {l : Nat} (hl : l < nL N) : f_X6_lineAt (nI l) (1 : Int32) σ = some (nI (eB N l), σ) := by
  have hm := hN.2.2.1
  rw [show (1 : Int32) = nI 1 from rfl, y_lineAt (by omega) (by omega), (hG.2.2.2 l hl).2.1]
theorem op_angle (h : IN N σ 0 0 0) (a b : Int32) : OE N (f_X5_angle a b σ) (f_X6_angle a b) := by
  unfold OE f_X5_angle
  refine ho_be (x_hasBus h a) ?_
  try dsimp only
  by_cases g1 : inR a 0 ((nB N : Int) - 1) = true
  · rw [g1]
    refine ho_f (by decide) ?_
    refine ho_be (x_flag b σ) ?_
    try dsimp only
    by_cases g2 : inR b 0 1 = true
    · rw [g2]
      refine ho_f (by decide) ?_
      obtain ⟨i, hi, rfl⟩ := inR_nI g1
      have hN := h.NV
      have hm := hN.2.2.1
      have hn := hN.2.1
      obtain ⟨sl, hI⟩ := Isl.ex (nB N) (eA N) (eB N) (eO N) (nL N) hN.ab
      obtain ⟨x, -, hx⟩ := Sol.ex hI hN.ab hN.s0 (fQ N)
      obtain ⟨y, -, hy⟩ := Sol.ex hI hN.ab hN.s0 (pQ (-1) (-1))
      have hb := fl_bd hN hx (fQ_bd hN) hI
      have hb2 := fl_bd hN hy (fun i _ => pQ_bd _ _ i) hI
      refine x_flows h (lv_all hN) hI hx hy (fun τ W F hτ hW W0 W1 hS h7 h8 _ => ?_)
      refine ho_chk (ib_nI (by omega) (by omega)) ?_
      rw [nI31 (by omega)]
      obtain ⟨c1, c2⟩ := hS.2.1 i hi
      refine ho_bind (x_partS (ρ := x i) (by omega) (by rw [hS.1]; exact W0) (by rw [hS.1]; omega) (by rw [hS.1]; exact c1) b τ) (fun q hq => ho_some ?_)
      obtain ⟨e1, hp⟩ := hq
      rw [e1]
      unfold f_X6_angle
      refine ho_be (y_isBus hτ _) ?_
      try dsimp only
      rw [g1]
      refine ho_f (by decide) ?_
      refine ho_be (y_flag b τ) ?_
      try dsimp only
      rw [g2]
      refine ho_f (by decide) ?_
      refine ho_bind (y_asTold hN hτ.MG) (fun τ1 h1 => ?_)
      obtain ⟨F1, h93⟩ := h1
      have Q1 : QM τ τ1 := F1.QM (by decide) (by decide)
      refine ho_bind (y_inSet hN (hτ.m Q1).MG) (fun s hs => ?_)
      obtain ⟨s1, s2⟩ := hs
      rw [s1]
      refine ho_bind (y_told hτ hI hx (s2.all hN) Q1 h93) (fun υ hυ => ?_)
      obtain ⟨Q2, hυ2, h94, hJ⟩ := hυ
      refine ho_chk (ib_nI (by omega) (by omega)) ?_
      rw [nI31 (by omega)]
      obtain ⟨b1, b2, -, b4⟩ := hJ i hi
      -- the bound: the class's cell is the same x, times at least one
      have xb : ab (x i) ≤ 49500000000 := by
        have w1 : ab (((τ.2 16 i).toInt : Int) : Rat) ≤ 49500000000 := by
          rw [ab_int]
          have : ((((τ.2 16 i).toInt.natAbs : Nat) : Int) : Rat) ≤ ((49500000000 : Int) : Rat) := Rat.intCast_le_intCast.mpr (by omega)
          exact this
        rw [c1, ab_mul] at w1
        have w2 : (1 : Rat) ≤ ab (W : Rat) := by
          rw [ab_int]
          have : ((1 : Int) : Rat) ≤ (((W.natAbs : Nat) : Int) : Rat) := Rat.intCast_le_intCast.mpr (by omega)
          exact this
        have w3 := mul_le2 (Rat.le_refl (a := ab (x i))) w2 (by grind) (ab_nn _)
        grind
      have yb : (υ.2 95 i).toInt.natAbs < 2 ^ 62 := by
        have w1 : ab (((υ.2 96 i).toInt : Int) : Rat) ≤ 4084101 := by
          rw [ab_int]
          have : ((((υ.2 96 i).toInt.natAbs : Nat) : Int) : Rat) ≤ ((4084101 : Int) : Rat) := Rat.intCast_le_intCast.mpr (by omega)
          exact this
        have w2 := mul_le2 xb w1 (ab_nn _) (by grind)
        rw [← ab_mul, ← b4, ab_int] at w2
        have w3 : (((υ.2 95 i).toInt.natAbs : Int) : Rat) ≤ ((49500000000 * 4084101 : Int) : Rat) := Rat.le_trans w2 (by decide +kernel)
        have := rat_le w3
        omega
      refine ho_bind (y_partS (ρ := x i) yb b1 (by omega) b4 b υ) (fun r hr => ho_some ⟨?_, N, ?_⟩)
      · exact hr.2.one hp
      · rw [hr.1]; exact hυ2
    · have g2' : inR b 0 1 = false := by cases w : inR b 0 1; rfl; exact absurd w g2
      rw [g2']
      refine ho_t rfl (ho_bind (x_bad h) (fun q hq => ho_some ?_))
      unfold f_X6_angle
      refine ho_be (y_isBus hq.2 a) ?_
      try dsimp only
      rw [g1]
      refine ho_f (by decide) ?_
      refine ho_be (y_flag b q.2) ?_
      try dsimp only
      rw [g2']
      exact ho_t rfl (ho_bind (y_bad hq.2) (fun r hr => ho_some ⟨by first | rfl | rw [hr.1, hq.1], N, hr.2⟩))
  · have g1' : inR a 0 ((nB N : Int) - 1) = false := by cases w : inR a 0 ((nB N : Int) - 1); rfl; exact absurd w g1
    rw [g1']
    refine ho_t rfl (ho_bind (x_bad h) (fun q hq => ho_some ?_))
    unfold f_X6_angle
    refine ho_be (y_isBus hq.2 a) ?_
    try dsimp only
    rw [g1']
    exact ho_t rfl (ho_bind (y_bad hq.2) (fun r hr => ho_some ⟨by first | rfl | rw [hr.1, hq.1], N, hr.2⟩))
theorem op_factor (h : IN N σ 0 0 0) (a c b : Int32) : OE N (f_X5_factor a c b σ) (f_X6_factor a c b) := by
  unfold OE f_X5_factor
  refine ho_be (x_hasLine h a) ?_
  try dsimp only
  by_cases g1 : inR a 0 ((nL N : Int) - 1) = true
  · rw [g1]
    refine ho_f (by decide) ?_
    refine ho_be (x_hasBus h c) ?_
    try dsimp only
    by_cases g2 : inR c 0 ((nB N : Int) - 1) = true
    · rw [g2]
      refine ho_f (by decide) ?_
      refine ho_be (x_flag b σ) ?_
      try dsimp only
      by_cases g3 : inR b 0 1 = true
      · rw [g3]
        refine ho_f (by decide) ?_
        obtain ⟨l, hlt, rfl⟩ := inR_nI g1
        have hN := h.NV
        have hm := hN.2.2.1
        have hn := hN.2.1
        obtain ⟨sl, hI⟩ := Isl.ex (nB N) (eA N) (eB N) (eO N) (nL N) hN.ab
        obtain ⟨x, -, hx⟩ := Sol.ex hI hN.ab hN.s0 (fQ N)
        obtain ⟨y, -, hy⟩ := Sol.ex hI hN.ab hN.s0 (pQ c (-1))
        have hb := fl_bd hN hx (fQ_bd hN) hI
        have hb2 := fl_bd hN hy (fun i _ => pQ_bd _ _ i) hI
        have hc1 : c ≠ (-1 : Int32) := fun e => by
          rw [e] at g2
          have := of_decide_eq_true g2
          have q : (-1 : Int32).toInt = -1 := rfl
          omega
        refine x_flows h (lv_all hN) hI hx hy (fun τ W F hτ hW W0 W1 hS h7 h8 _ => ?_)
        refine ho_chk (ib_nI (by omega) (by omega)) ?_
        rw [nI31 (by omega)]
        have cb := cell_bd (hS.2.2.2 l hlt) (hb2 l hlt) W0 W1
        refine ho_bind (x_partS (ρ := fl_ N (eO N) y l) (by omega) (by rw [hS.1]; exact W0) (by rw [hS.1]; omega) (by rw [hS.1]; exact hS.2.2.2 l hlt) b τ) (fun q hq => ho_some ?_)
        obtain ⟨e1, hp⟩ := hq
        rw [e1]
        unfold f_X6_factor
        refine ho_be (y_isLine hτ _) ?_
        try dsimp only
        rw [g1]
        refine ho_f (by decide) ?_
        refine ho_be (y_isBus hτ c) ?_
        try dsimp only
        rw [g2]
        refine ho_f (by decide) ?_
        refine ho_be (y_flag b τ) ?_
        try dsimp only
        rw [g3]
        refine ho_f (by decide) ?_
        refine ho_bind (y_oneOf c (-1 : Int32) hc1) (fun τ1 h1 => ?_)
        obtain ⟨F1, h93⟩ := h1
        have Q1 : QM τ τ1 := F1.QM (by decide) (by decide)
        refine ho_bind (y_inSet hN (hτ.m Q1).MG) (fun s hs => ?_)
        obtain ⟨s1, s2⟩ := hs
        rw [s1]
        refine ho_bind (y_one hτ hI hy (s2.all hN) Q1 h93) (fun υ hυ => ?_)
        obtain ⟨Q2, hυ2, h94, hJ⟩ := hυ
        refine ho_bind (y_inSet hN hυ2.MG) (fun s' hs' => ?_)
        obtain ⟨s1', s2'⟩ := hs'
        rw [s1']
        refine ho_bind (y_flowTold hN hυ2.MG (s2'.all hN) hI hJ hb2 hlt b) (fun r hr => ho_some ⟨?_, N, ?_⟩)
        · exact hr.2.one hp
        · rw [hr.1]; exact hυ2
      · have g3' : inR b 0 1 = false := by cases w : inR b 0 1; rfl; exact absurd w g3
        rw [g3']
        refine ho_t rfl (ho_bind (x_bad h) (fun q hq => ho_some ?_))
        unfold f_X6_factor
        refine ho_be (y_isLine hq.2 a) ?_
        try dsimp only
        rw [g1]
        refine ho_f (by decide) ?_
        refine ho_be (y_isBus hq.2 c) ?_
        try dsimp only
        rw [g2]
        refine ho_f (by decide) ?_
        refine ho_be (y_flag b q.2) ?_
        try dsimp only
        rw [g3']
        exact ho_t rfl (ho_bind (y_bad hq.2) (fun r hr => ho_some ⟨by first | rfl | rw [hr.1, hq.1], N, hr.2⟩))
    · have g2' : inR c 0 ((nB N : Int) - 1) = false := by cases w : inR c 0 ((nB N : Int) - 1); rfl; exact absurd w g2
      rw [g2']
      refine ho_t rfl (ho_bind (x_bad h) (fun q hq => ho_some ?_))
      unfold f_X6_factor
      refine ho_be (y_isLine hq.2 a) ?_
      try dsimp only
      rw [g1]
      refine ho_f (by decide) ?_
      refine ho_be (y_isBus hq.2 c) ?_
      try dsimp only
      rw [g2']
      exact ho_t rfl (ho_bind (y_bad hq.2) (fun r hr => ho_some ⟨by first | rfl | rw [hr.1, hq.1], N, hr.2⟩))
  · have g1' : inR a 0 ((nL N : Int) - 1) = false := by cases w : inR a 0 ((nL N : Int) - 1); rfl; exact absurd w g1
    rw [g1']
    refine ho_t rfl (ho_bind (x_bad h) (fun q hq => ho_some ?_))
    unfold f_X6_factor
    refine ho_be (y_isLine hq.2 a) ?_
    try dsimp only
    rw [g1']
    exact ho_t rfl (ho_bind (y_bad hq.2) (fun r hr => ho_some ⟨by first | rfl | rw [hr.1, hq.1], N, hr.2⟩))
theorem op_island (h : IN N σ 0 0 0) (a : Int32) : OE N (f_X5_island a σ) (f_X6_island a) := by
  unfold OE f_X5_island
  refine ho_be (x_hasBus h a) ?_
  try dsimp only
  by_cases g1 : inR a 0 ((nB N : Int) - 1) = true
  · rw [g1]
    refine ho_f (by decide) ?_
    obtain ⟨i, hi, rfl⟩ := inR_nI g1
    have hN := h.NV
    have hm := hN.2.2.1
    have hn := hN.2.1
    obtain ⟨sl, hI⟩ := Isl.ex (nB N) (eA N) (eB N) (eO N) (nL N) hN.ab
    obtain ⟨x, -, hx⟩ := Sol.ex hI hN.ab hN.s0 (fQ N)
    obtain ⟨y, -, hy⟩ := Sol.ex hI hN.ab hN.s0 (pQ (-1) (-1))
    have hb := fl_bd hN hx (fQ_bd hN) hI
    have hb2 := fl_bd hN hy (fun i _ => pQ_bd _ _ i) hI
    refine ho_bind (x_takeS hN h.CG (-1) (-1) (lv_all hN) hI) (fun τ hτ0 => ?_)
    obtain ⟨F, h7, h8⟩ := hτ0
    have hτ := h.q (F.mono (by decide : ∀ i, i ∈ [7, 8] → i ∈ CS))
    refine ho_chk (ib_nI (by omega) (by omega)) (ho_some ?_)
    unfold f_X6_island
    refine ho_be (y_isBus hτ _) ?_
    try dsimp only
    rw [g1]
    refine ho_f (by decide) ?_
    refine ho_bind (y_inSet hN hτ.MG) (fun s hs => ?_)
    obtain ⟨s1, s2⟩ := hs
    rw [s1]
    refine ho_bind (y_partsS hN hτ.MG (s2.all hN) hI) (fun υ hυ => ?_)
    obtain ⟨F2, h94⟩ := hυ
    refine ho_chk (ib_nI (by omega) (by omega)) (ho_some ⟨?_, N, hτ.m (F2.QM (by decide) (by decide))⟩)
    show υ.1 94 (nI i).toNatClampNeg = τ.1 8 (nI i).toNatClampNeg
    rw [nI31 (by omega), h94 i hi, h8 i hi]
  · have g1' : inR a 0 ((nB N : Int) - 1) = false := by cases w : inR a 0 ((nB N : Int) - 1); rfl; exact absurd w g1
    rw [g1']
    refine ho_t rfl (ho_bind (x_bad h) (fun q hq => ho_some ?_))
    unfold f_X6_island
    refine ho_be (y_isBus hq.2 a) ?_
    try dsimp only
    rw [g1']
    exact ho_t rfl (ho_bind (y_bad hq.2) (fun r hr => ho_some ⟨by first | rfl | rw [hr.1, hq.1], N, hr.2⟩))
end Op2
