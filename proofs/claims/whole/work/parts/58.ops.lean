/-! outage, isBridge, of (wip/whole/gen/ops58.py) -/
section Op3
variable {N : Net} {σ : St}
theorem IN.e30 {x y z : Int32} (h : IN N σ x y z) {k : Nat} (hk : k < nL N) : σ.1 30 k = bI (eO N k) := (h.2.1.2.2.2 k hk).2.2.2.2
theorem IN.e26 {x y z : Int32} (h : IN N σ x y z) {k : Nat} (hk : k < nL N) : σ.1 26 k = nI (eA N k) := (h.2.1.2.2.2 k hk).1
theorem IN.e27 {x y z : Int32} (h : IN N σ x y z) {k : Nat} (hk : k < nL N) : σ.1 27 k = nI (eB N k) := (h.2.1.2.2.2 k hk).2.1
theorem IN.e28 {x y z : Int32} (h : IN N σ x y z) {k : Nat} (hk : k < nL N) : σ.1 28 k = iI (eS N k) := (h.2.1.2.2.2 k hk).2.2.1
theorem IN.e29 {x y z : Int32} (h : IN N σ x y z) {k : Nat} (hk : k < nL N) : σ.1 29 k = iI (eM N k) := (h.2.1.2.2.2 k hk).2.2.2.1
theorem IN.e25 {x y z : Int32} (h : IN N σ x y z) {i : Nat} (hi : i < 6) : σ.1 25 i = iI (eQ N i) := h.2.1.2.2.1 i hi
theorem op_outage (h : IN N σ 0 0 0) (a c b : Int32) : OE N (f_X5_outage a c b σ) (f_X6_outage a c b) := by
  unfold OE f_X5_outage
  refine ho_be (x_hasLine h a) ?_
  try dsimp only
  by_cases g1 : inR a 0 ((nL N : Int) - 1) = true
  · rw [g1]
    refine ho_f (by decide) ?_
    refine ho_be (x_hasLine h c) ?_
    try dsimp only
    by_cases g2 : inR c 0 ((nL N : Int) - 1) = true
    · rw [g2]
      refine ho_f (by decide) ?_
      refine ho_be (x_flag b σ) ?_
      try dsimp only
      by_cases g3 : inR b 0 1 = true
      · rw [g3]
        refine ho_f (by decide) ?_
        obtain ⟨l, hlt, rfl⟩ := inR_nI g1
        obtain ⟨k, hk, rfl⟩ := inR_nI g2
        have hN := h.NV
        have hm := hN.2.2.1
        have hn := hN.2.1
        obtain ⟨sl, hI⟩ := Isl.ex (nB N) (eA N) (eB N) (lvW N k) (nL N) hN.ab
        obtain ⟨x, -, hx⟩ := Sol.ex hI hN.ab hN.s0 (fQ N)
        obtain ⟨y, -, hy⟩ := Sol.ex hI hN.ab hN.s0 (pQ (-1) (-1))
        have hb := fl_bd hN hx (fQ_bd hN) hI
        have hb2 := fl_bd hN hy (fun i _ => pQ_bd _ _ i) hI
        refine ho_chk (ib_nI (by omega) (by omega)) ?_
        rw [nI31 (k := k) (by omega), h.e30 hk]
        by_cases hO : eO N k = true
        · refine ho_f (by rw [hO]; decide) ?_
          refine x_flows h (lv_wo hN hk) hI hx hy (fun τ W F hτ hW W0 W1 hS h7 h8 _ => ?_)
          refine ho_chk (ib_nI (by omega) (by omega)) ?_
          rw [nI31 (by omega)]
          have cb := cell_bd (hS.2.2.1 l hlt) (hb l hlt) W0 W1
          refine ho_bind (x_partS (ρ := fl_ N (lvW N k) x l) (by omega) (by rw [hS.1]; exact W0) (by rw [hS.1]; omega) (by rw [hS.1]; exact hS.2.2.1 l hlt) b τ) (fun q hq => ho_some ?_)
          obtain ⟨e1, hp⟩ := hq
          rw [e1]
          unfold f_X6_outage
          refine ho_be (y_isLine hτ _) ?_
          try dsimp only
          rw [g1]
          refine ho_f (by decide) ?_
          refine ho_be (y_isLine hτ _) ?_
          try dsimp only
          rw [g2]
          refine ho_f (by decide) ?_
          refine ho_be (y_flag b τ) ?_
          try dsimp only
          rw [g3]
          refine ho_f (by decide) ?_
          refine ho_be (y_isIn hN hτ.MG hk) ?_
          try dsimp only
          refine ho_f (by rw [hO]; decide) ?_
          refine ho_bind (y_asTold hN hτ.MG) (fun τ1 h1 => ?_)
          obtain ⟨F1, h93⟩ := h1
          have Q1 : QM τ τ1 := F1.QM (by decide) (by decide)
          refine ho_bind (y_inSet hN (hτ.m Q1).MG) (fun s hs => ?_)
          obtain ⟨s1, s2⟩ := hs
          rw [s1]
          refine ho_bind (y_told hτ hI hx (s2.wo hN hk) Q1 h93) (fun υ hυ => ?_)
          obtain ⟨Q2, hυ2, h94, hJ⟩ := hυ
          refine ho_bind (y_inSet hN hυ2.MG) (fun s' hs' => ?_)
          obtain ⟨s1', s2'⟩ := hs'
          rw [s1']
          refine ho_bind (y_flowTold hN hυ2.MG (s2'.wo hN hk) hI hJ hb hlt b) (fun r hr => ho_some ⟨?_, N, ?_⟩)
          · exact hr.2.one hp
          · rw [hr.1]; exact hυ2
        · have hO' : eO N k = false := by cases w : eO N k; rfl; exact absurd w hO
          refine ho_t (by rw [hO']; rfl) (ho_bind (x_no h) (fun q hq => ho_some ?_))
          unfold f_X6_outage
          refine ho_be (y_isLine hq.2 _) ?_
          try dsimp only
          rw [g1]
          refine ho_f (by decide) ?_
          refine ho_be (y_isLine hq.2 _) ?_
          try dsimp only
          rw [g2]
          refine ho_f (by decide) ?_
          refine ho_be (y_flag b q.2) ?_
          try dsimp only
          rw [g3]
          refine ho_f (by decide) ?_
          refine ho_be (y_isIn hN hq.2.MG hk) ?_
          try dsimp only
          exact ho_t (by rw [hO']; rfl) (ho_bind (y_no hq.2) (fun r hr => ho_some ⟨by first | rfl | rw [hr.1, hq.1], N, hr.2⟩))
      · have g3' : inR b 0 1 = false := by cases w : inR b 0 1; rfl; exact absurd w g3
        rw [g3']
        refine ho_t rfl (ho_bind (x_bad h) (fun q hq => ho_some ?_))
        unfold f_X6_outage
        refine ho_be (y_isLine hq.2 a) ?_
        try dsimp only
        rw [g1]
        refine ho_f (by decide) ?_
        refine ho_be (y_isLine hq.2 c) ?_
        try dsimp only
        rw [g2]
        refine ho_f (by decide) ?_
        refine ho_be (y_flag b q.2) ?_
        try dsimp only
        rw [g3']
        exact ho_t rfl (ho_bind (y_bad hq.2) (fun r hr => ho_some ⟨by first | rfl | rw [hr.1, hq.1], N, hr.2⟩))
    · have g2' : inR c 0 ((nL N : Int) - 1) = false := by cases w : inR c 0 ((nL N : Int) - 1); rfl; exact absurd w g2
      rw [g2']
      refine ho_t rfl (ho_bind (x_bad h) (fun q hq => ho_some ?_))
      unfold f_X6_outage
      refine ho_be (y_isLine hq.2 a) ?_
      try dsimp only
      rw [g1]
      refine ho_f (by decide) ?_
      refine ho_be (y_isLine hq.2 c) ?_
      try dsimp only
      rw [g2']
      exact ho_t rfl (ho_bind (y_bad hq.2) (fun r hr => ho_some ⟨by first | rfl | rw [hr.1, hq.1], N, hr.2⟩))
  · have g1' : inR a 0 ((nL N : Int) - 1) = false := by cases w : inR a 0 ((nL N : Int) - 1); rfl; exact absurd w g1
    rw [g1']
    refine ho_t rfl (ho_bind (x_bad h) (fun q hq => ho_some ?_))
    unfold f_X6_outage
    refine ho_be (y_isLine hq.2 a) ?_
    try dsimp only
    rw [g1']
    exact ho_t rfl (ho_bind (y_bad hq.2) (fun r hr => ho_some ⟨by first | rfl | rw [hr.1, hq.1], N, hr.2⟩))
theorem x_isBridge (h : IN N σ 0 0 0) {k : Nat} (hk : k < nL N) {sl : Nat → Nat} (hI : IslN N (lvW N k) sl) :
    Ho (f_X5_isBridge (nI k) σ) (fun q => Fr CS σ q.2 ∧ q.1 = bI (eO N k && !decide (sl (eA N k) = sl (eB N k)))) := by
  have hN := h.NV
  have hm := hN.2.2.1
  have hn := hN.2.1
  obtain ⟨v1, v2, -⟩ := hN.2.2.2.2 k hk
  unfold f_X5_isBridge
  refine ho_chk (ib_nI (by omega) (by omega)) ?_
  rw [nI31 (by omega), h.e30 hk]
  by_cases hO : eO N k = true
  · refine ho_f (by rw [hO]; decide) ?_
    refine ho_bind (x_takeS hN h.CG _ (-1) (lv_wo hN hk) hI) (fun τ hτ => ?_)
    obtain ⟨F, h7, h8⟩ := hτ
    have hF : Fr CS σ τ := F.mono (by decide)
    have hτ := h.q hF
    rw [hτ.e26 hk, hτ.e27 hk]
    refine ho_be (x_joins (by omega) v1 v2 (fun i hi => hI.lt hi) h8) ?_
    try dsimp only
    rw [hO]
    by_cases e : sl (eA N k) = sl (eB N k)
    · rw [decide_eq_true e]
      exact ho_f (by decide) (ho_some ⟨hF, rfl⟩)
    · rw [decide_eq_false e]
      exact ho_t rfl (ho_some ⟨hF, rfl⟩)
  · have hO' : eO N k = false := by cases w : eO N k; rfl; exact absurd w hO
    rw [hO']
    exact ho_t rfl (ho_some ⟨Fr.refl, rfl⟩)
theorem y_isBridge {x y z : Int32} (h : IN N σ x y z) {k : Nat} (hk : k < nL N) {sl : Nat → Nat} (hI : IslN N (lvW N k) sl) :
    Ho (f_X6_isBridge (nI k) σ) (fun q => QM σ q.2 ∧ q.1 = bI (eO N k && !decide (sl (eA N k) = sl (eB N k))) ∧ (eO N k = true → ∀ i, i < nB N → q.2.1 94 i = nI (sl i))) := by
  have hN := h.NV
  have hm := hN.2.2.1
  have hn := hN.2.1
  obtain ⟨v1, v2, -⟩ := hN.2.2.2.2 k hk
  have sa := hI.lt v1
  have sb := hI.lt v2
  unfold f_X6_isBridge
  refine ho_be (y_isIn hN h.MG hk) ?_
  try dsimp only
  by_cases hO : eO N k = true
  · refine ho_f (by rw [hO]; decide) ?_
    refine ho_bind (y_inSet hN h.MG) (fun s hs => ?_)
    obtain ⟨s1, s2⟩ := hs
    rw [s1]
    refine ho_bind (y_partsS hN h.MG (s2.wo hN hk) hI) (fun υ hυ => ?_)
    obtain ⟨F2, h94⟩ := hυ
    have Q : QM σ υ := F2.QM (by decide) (by decide)
    have hυ2 := h.m Q
    refine ho_be (y_lineAt0 hN hυ2.MG hk) (ho_chk (ib_nI (by omega) (by omega)) (ho_be (y_lineAt1 hN hυ2.MG hk) (ho_chk (ib_nI (by omega) (by omega)) ?_)))
    try dsimp only
    rw [nI31 (by omega), nI31 (by omega), h94 _ v1, h94 _ v2, hO]
    refine ho_if (fun c => ho_some ⟨Q, ?_, fun _ => h94⟩) (fun c => ho_some ⟨Q, ?_, fun _ => h94⟩)
    · rw [decide_eq_true (nI_inj (by omega) (by omega) c)]; rfl
    · rw [decide_eq_false (fun e => c (by rw [e]))]; rfl
  · have hO' : eO N k = false := by cases w : eO N k; rfl; exact absurd w hO
    rw [hO']
    exact ho_t rfl (ho_some ⟨QM.refl, rfl, fun e => absurd e (by decide)⟩)
theorem op_of (h : IN N σ 0 0 0) (a b : Int32) : OE N (f_X5_of a b σ) (f_X6_of a b) := by
  unfold OE f_X5_of
  refine ho_be (x_hasLine h a) ?_
  try dsimp only
  by_cases g1 : inR a 0 ((nL N : Int) - 1) = true
  · rw [g1]
    refine ho_f (by decide) ?_
    refine ho_be (x_in5 b σ) ?_
    try dsimp only
    by_cases g2 : inR b 0 5 = true
    · rw [g2]
      refine ho_f (by decide) ?_
      obtain ⟨l, hlt, rfl⟩ := inR_nI g1
      have hN := h.NV
      have hm := hN.2.2.1
      have gb := of_decide_eq_true g2
      obtain ⟨w, hw, rfl⟩ : ∃ w, w < 6 ∧ b = nI w := inR_nI (n := 6) (by rw [← g2]; rfl)
      obtain ⟨q1, q2, q3, q4, q5⟩ := h.MG.2.2.2 l hlt
      have LA : ∀ v, v < 5 → f_X6_lineAt (nI l) (nI v) σ = some (σ.1 88 (8 + 5 * l + v), σ) := fun v hv => y_lineAt (by omega) hv
      have fin : ∀ (v : Int32) (w : Nat), w < 5 → inR (nI w) 0 5 = true → v = σ.1 88 (8 + 5 * l + w) → Ho (f_X6_of (nI l) (nI w) σ) (fun r => r.1 = v ∧ ∃ N', IN N' r.2 0 0 0) := by
        intro v w hw g2 hv
        unfold f_X6_of
        refine ho_be (y_isLine h _) ?_
        try dsimp only
        rw [g1]
        refine ho_f (by decide) ?_
        refine ho_be (y_in5 _ σ) ?_
        try dsimp only
        rw [g2]
        refine ho_f (by decide) ?_
        refine ho_f (nI_nge' (a := 5) (by omega) (by omega)) (ho_be (LA w hw) (ho_some ⟨hv.symm, N, h⟩))
      have n0 : (0 : Int32) = nI 0 := rfl
      have n1 : (1 : Int32) = nI 1 := rfl
      have n2 : (2 : Int32) = nI 2 := rfl
      have n3 : (3 : Int32) = nI 3 := rfl
      have n4 : (4 : Int32) = nI 4 := rfl
      have nq : ∀ {u : Nat}, w ≠ u → u < 1000 → ¬ nI w = nI u := fun e hu => nI_ne e (by omega) hu
      have ck : ib (nI l) 10 = true := ib_nI (by omega) (by omega)
      have i31 : (nI l).toNatClampNeg = l := nI31 (by omega)
      rcases (show w = 0 ∨ w = 1 ∨ w = 2 ∨ w = 3 ∨ w = 4 ∨ w = 5 by omega) with e | e | e | e | e | e
      · subst e
        refine ho_t rfl (ho_chk ck (ho_some (fin _ 0 (by omega) g2 ?_)))
        show σ.1 26 _ = _
        rw [i31, h.e26 hlt, Nat.add_zero, q1]
      · subst e
        refine ho_f (by decide) (ho_t rfl (ho_chk ck (ho_some (fin _ 1 (by omega) g2 ?_))))
        show σ.1 27 _ = _
        rw [i31, h.e27 hlt, q2]
      · subst e
        refine ho_f (by decide) (ho_f (by decide) (ho_t rfl (ho_chk ck (ho_some (fin _ 2 (by omega) g2 ?_)))))
        show σ.1 28 _ = _
        rw [i31, h.e28 hlt, q3]
      · subst e
        refine ho_f (by decide) (ho_f (by decide) (ho_f (by decide) (ho_t rfl (ho_chk ck (ho_some (fin _ 3 (by omega) g2 ?_))))))
        show σ.1 29 _ = _
        rw [i31, h.e29 hlt, q4]
      · subst e
        refine ho_f (by decide) (ho_f (by decide) (ho_f (by decide) (ho_f (by decide) (ho_t rfl (ho_chk ck ?_)))))
        rw [i31, h.e30 hlt]
        refine ho_if (fun c => ho_some (fin _ 4 (by omega) g2 ?_)) (fun c => ho_some (fin _ 4 (by omega) g2 ?_))
        · rw [q5]; exact c.symm
        · rw [q5]
          cases z : eO N l
          · rw [z] at c; exact absurd rfl c
          · rfl
      · subst e
        refine ho_f (by decide) (ho_f (by decide) (ho_f (by decide) (ho_f (by decide) (ho_f (by decide) ?_))))
        obtain ⟨sl, hI⟩ := Isl.ex (nB N) (eA N) (eB N) (lvW N l) (nL N) hN.ab
        refine ho_bind (x_isBridge h hlt hI) (fun q hq => ?_)
        obtain ⟨F, e1⟩ := hq
        have hτ := h.q F
        rw [e1]
        have fin2 : Ho (f_X6_of (nI l) (nI 5) q.2) (fun r => r.1 = bI (eO N l && !decide (sl (eA N l) = sl (eB N l))) ∧ ∃ N', IN N' r.2 0 0 0) := by
          unfold f_X6_of
          refine ho_be (y_isLine hτ _) ?_
          try dsimp only
          rw [g1]
          refine ho_f (by decide) ?_
          refine ho_be (y_in5 _ q.2) ?_
          try dsimp only
          rw [g2]
          refine ho_f (by decide) ?_
          refine ho_t (nI_ge' (a := 5) (by omega) (by omega)) (ho_bind (y_isBridge hτ hlt hI) (fun r hr => ?_))
          obtain ⟨Q, r1, -⟩ := hr
          rw [r1]
          refine ho_if (fun c => ho_some ⟨c.symm, N, hτ.m Q⟩) (fun c => ho_some ⟨?_, N, hτ.m Q⟩)
          cases z : (eO N l && !decide (sl (eA N l) = sl (eB N l)))
          · rw [z] at c; exact absurd rfl c
          · rfl
        refine ho_if (fun c => ho_some ?_) (fun c => ho_some ?_)
        · rw [c] at fin2; exact fin2
        · have c' : bI (eO N l && !decide (sl (eA N l) = sl (eB N l))) = 1 := by
            cases z : (eO N l && !decide (sl (eA N l) = sl (eB N l)))
            · rw [z] at c; exact absurd rfl c
            · rfl
          rw [c'] at fin2; exact fin2
    · have g2' : inR b 0 5 = false := by cases w : inR b 0 5; rfl; exact absurd w g2
      rw [g2']
      refine ho_t rfl (ho_bind (x_bad h) (fun q hq => ho_some ?_))
      unfold f_X6_of
      refine ho_be (y_isLine hq.2 a) ?_
      try dsimp only
      rw [g1]
      refine ho_f (by decide) ?_
      refine ho_be (y_in5 b q.2) ?_
      try dsimp only
      rw [g2']
      exact ho_t rfl (ho_bind (y_bad hq.2) (fun r hr => ho_some ⟨by first | rfl | rw [hr.1, hq.1], N, hr.2⟩))
  · have g1' : inR a 0 ((nL N : Int) - 1) = false := by cases w : inR a 0 ((nL N : Int) - 1); rfl; exact absurd w g1
    rw [g1']
    refine ho_t rfl (ho_bind (x_bad h) (fun q hq => ho_some ?_))
    unfold f_X6_of
    refine ho_be (y_isLine hq.2 a) ?_
    try dsimp only
    rw [g1']
    exact ho_t rfl (ho_bind (y_bad hq.2) (fun r hr => ho_some ⟨by first | rfl | rw [hr.1, hq.1], N, hr.2⟩))
end Op3
