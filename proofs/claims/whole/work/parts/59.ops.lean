/-! spread (wip/whole/gen/ops59.py) -/
theorem PA.zero {b : Int32} (h : inR b 0 1 = true) : PA 0 b b.toInt64 := by
  have h1 := of_decide_eq_true h
  have e0 : (0 : Int32).toInt = 0 := rfl
  refine ⟨0, 1, ⟨by omega, rfl, by decide +kernel⟩, ?_⟩
  rw [i2l_t]
  by_cases c : b = 0
  · rw [if_pos c, c]; rfl
  · rw [if_neg c]
    have : b.toInt ≠ 0 := fun w => c (i_ext (by rw [w, e0]))
    omega
section Op4
variable {N : Net} {σ : St}
theorem Sol.zero {lv : Nat → Bool} {sl : Nat → Nat} (hN : NV N) (hI : IslN N lv sl) {f x : Nat → Rat} (hx : SolN N lv sl f x) {J : Nat} (hf : ∀ i, i < nB N → sl i = J → f i = 0) : ∀ i, i < nB N → sl i = J → x i = 0 := by
  have hS : SolN N lv sl f (fun i => if sl i = J then 0 else x i) := by
    refine ⟨fun i hi hs => ?_, fun i hi hs => ?_⟩
    · try dsimp only
      rw [hx.1 i hi hs]; split <;> rfl
    · by_cases e : sl i = J
      · rw [hf i hi e]
        refine sm_zero (fun l hl => ?_)
        by_cases hv : lv l = true
        · rw [if_pos hv]
          have es := hI.2.1 l hl hv
          by_cases c : sl (eA N l) = J
          · dsimp only
            rw [if_pos c, if_pos (by rw [← es]; exact c)]; grind
          · have : ds (eA N) (eB N) l i = 0 := by
              unfold ds
              rw [if_neg (fun w => c (by rw [← w]; exact e)), if_neg (fun w => c (by rw [es, ← w]; exact e))]
              grind
            rw [this]; grind
        · rw [if_neg hv]
      · rw [← hx.2 i hi hs]
        refine sm_congr (fun l hl => ?_)
        by_cases hv : lv l = true
        · rw [if_pos hv, if_pos hv]
          have es := hI.2.1 l hl hv
          by_cases c : sl (eA N l) = J
          · have : ds (eA N) (eB N) l i = 0 := by
              unfold ds
              rw [if_neg (fun w => e (by rw [w]; exact c)), if_neg (fun w => e (by rw [w, ← es]; exact c))]
              grind
            rw [this]; grind
          · dsimp only
            rw [if_neg c, if_neg (fun w => c (by rw [es]; exact w))]
        · rw [if_neg hv, if_neg hv]
  intro i hi e
  have := Sol.uniq hN hI hx hS i hi
  rw [this]
  try dsimp only
  rw [if_pos e]
theorem op_spread (h : IN N σ 0 0 0) (a c b : Int32) : OE N (f_X5_spread a c b σ) (f_X6_spread a c b) := by
  unfold OE f_X5_spread
  refine ho_be (x_hasLine h a) ?_
  try dsimp only
  by_cases g1 : inR a 0 ((nL N : Int) - 1) = true
  · rw [g1]
    refine ho_f (by decide) ?_
    refine ho_be (x_hasLine h c) ?_
    try dsimp only
    by_cases g2 : inR c 0 ((nL N : Int) - 1) = true
    · rw [g2]
      refine ho_f (by decide) ?_
      refine ho_be (x_flag b σ) ?_
      try dsimp only
      by_cases g3 : inR b 0 1 = true
      · rw [g3]
        refine ho_f (by decide) ?_
        obtain ⟨l, hlt, rfl⟩ := inR_nI g1
        obtain ⟨k, hk, rfl⟩ := inR_nI g2
        have hN := h.NV
        have hm := hN.2.2.1
        have hn := hN.2.1
        obtain ⟨v1, v2, v3, -⟩ := hN.2.2.2.2 k hk
        obtain ⟨u1, u2, u3, -⟩ := hN.2.2.2.2 l hlt
        obtain ⟨sl, hI⟩ := Isl.ex (nB N) (eA N) (eB N) (eO N) (nL N) hN.ab
        obtain ⟨sl', hI'⟩ := Isl.ex (nB N) (eA N) (eB N) (lvW N k) (nL N) hN.ab
        obtain ⟨x, -, hx⟩ := Sol.ex hI hN.ab hN.s0 (fQ N)
        obtain ⟨y, -, hy⟩ := Sol.ex hI hN.ab hN.s0 (pQ (nI (eA N k)) (nI (eB N k)))
        have hb2 := fl_bd hN hy (fun i _ => pQ_bd _ _ i) hI
        have hAB : nI (eA N k) ≠ nI (eB N k) := nI_ne v3 (by omega) (by omega)
        refine ho_chk (ib_nI (by omega) (by omega)) ?_
        rw [nI31 (k := k) (by omega), h.e30 hk]
        by_cases hO : eO N k = true
        · refine ho_f (by rw [hO]; decide) (ho_bind (x_isBridge h hk hI') (fun w hw => ?_))
          obtain ⟨F0, w1⟩ := hw
          have h0 := h.q F0
          rw [w1, hO]
          by_cases nb : sl' (eA N k) = sl' (eB N k)
          · rw [decide_eq_true nb]
            refine ho_t rfl ?_
            -- the model's side, from any state of the class
            have hv : ∀ {i}, i < nB N → pQ (nI (eA N k)) (nI (eB N k)) i = ds (eA N) (eB N) k i := fun {i} hi => by
              show ((pvI _ _ i : Int) : Rat) = _
              unfold pvI ds
              have d1 : (nI i = nI (eA N k)) ↔ i = eA N k := ⟨fun e => nI_inj (by omega) (by omega) e, fun e => by rw [e]⟩
              have d2 : (nI i = nI (eB N k)) ↔ i = eB N k := ⟨fun e => nI_inj (by omega) (by omega) e, fun e => by rw [e]⟩
              simp only [d1, d2]
              split <;> split <;> decide +kernel
            have lt1 : fl_ N (eO N) y k < 1 := by
              unfold fl_
              rw [if_pos hO]
              exact Sol.bridge hy hN.ab hN.s0 hk hO (fun i hi => hv hi) (hI'.cg (fun l _ => rfl)) nb
            have model : ∀ (τ : St) (ρ : Rat) (v : Int64), IN N τ 0 0 0 → PA ρ b v → (l = k ∨ eO N l = false ∨ sl (eA N l) ≠ sl (eA N k) → ρ = 0) → (l ≠ k → eO N l = true → sl (eA N l) = sl (eA N k) → ρ * (1 - fl_ N (eO N) y k) = fl_ N (eO N) y l) → Ho (f_X6_spread (nI l) (nI k) b τ) (fun r => r.1 = v ∧ ∃ N', IN N' r.2 0 0 0) := by
              intro τ ρ v hτ hp hz hq
              unfold f_X6_spread
              refine ho_be (y_isLine hτ _) ?_
              try dsimp only
              rw [g1]
              refine ho_f (by decide) ?_
              refine ho_be (y_isLine hτ _) ?_
              try dsimp only
              rw [g2]
              refine ho_f (by decide) ?_
              refine ho_be (y_flag b τ) ?_
              try dsimp only
              rw [g3]
              refine ho_f (by decide) ?_
              refine ho_be (y_isIn hN hτ.MG hk) ?_
              try dsimp only
              refine ho_f (by rw [hO]; decide) (ho_bind (y_isBridge hτ hk hI') (fun t ht => ?_))
              obtain ⟨Qt, t1, -⟩ := ht
              have hτ2 := hτ.m Qt
              rw [t1, hO, decide_eq_true nb]
              refine ho_t rfl (ho_be (y_lineAt0 hN hτ2.MG hk) (ho_be (y_lineAt1 hN hτ2.MG hk) (ho_bind (y_oneOf _ _ hAB) (fun τ1 h1 => ?_))))
              obtain ⟨F1, h93⟩ := h1
              have Q1 : QM t.2 τ1 := F1.QM (by decide) (by decide)
              refine ho_bind (y_inSet hN (hτ2.m Q1).MG) (fun s hs => ?_)
              obtain ⟨s1, s2⟩ := hs
              rw [s1]
              refine ho_bind (y_one hτ2 hI hy (s2.all hN) Q1 h93) (fun υ hυ => ?_)
              obtain ⟨Q2, hυ2, h94, hJ⟩ := hυ
              have ans0 : ρ = 0 → Ho (some (b.toInt64, υ)) (fun r => r.1 = v ∧ ∃ N', IN N' r.2 0 0 0) := fun e => ho_some ⟨by rw [e] at hp; exact (PA.zero g3).one hp, N, hυ2⟩
              refine ho_jn (ho_if (fun c => ho_t rfl (ans0 (hz (Or.inl (nI_inj (by omega) (by omega) c))))) (fun c => ?_))
              refine ho_be (y_isIn hN hυ2.MG hlt) ?_
              try dsimp only
              by_cases hOl : eO N l = true
              · refine ho_f (by rw [hOl]; decide) (ho_be (y_lineAt0 hN hυ2.MG hlt) (ho_chk (ib_nI (by omega) (by omega)) (ho_be (y_lineAt0 hN hυ2.MG hk) (ho_chk (ib_nI (by omega) (by omega)) ?_))))
                try dsimp only
                have sa := hI.lt u1
                have sb := hI.lt v1
                rw [nI31 (by omega), nI31 (by omega), h94 _ u1, h94 _ v1]
                refine ho_if (fun c2 => ?_) (fun c2 => ho_t rfl (ans0 (hz (Or.inr (Or.inr (fun e => c2 (by rw [e])))))))
                have e94 := nI_inj (by omega) (by omega) c2
                refine ho_f (by decide) (ho_bind (y_inSet hN hυ2.MG) (fun s' hs' => ?_))
                obtain ⟨s1', s2'⟩ := hs'
                rw [s1']
                refine ho_bind (y_flowOf hN hυ2.MG (s2'.all hN) hI hJ hb2 hlt) (fun p hp' => ?_)
                obtain ⟨p1, p2⟩ := hp'
                rw [p1]
                refine ho_be (y_lineAt0 hN hυ2.MG hk) (ho_chk (ib_nI (by omega) (by omega)) (ho_bind (y_inSet hN hυ2.MG) (fun s'' hs'' => ?_)))
                obtain ⟨s1'', s2''⟩ := hs''
                rw [s1'']
                refine ho_bind (y_flowOf hN hυ2.MG (s2''.all hN) hI hJ hb2 hk) (fun o ho' => ?_)
                obtain ⟨o1, o2⟩ := ho'
                rw [o1]
                try dsimp only
                rw [nI31 (by omega)]
                obtain ⟨a1, a2, a3, -⟩ := hJ _ u1
                obtain ⟨b1, b2, b3, -⟩ := hJ _ v1
                have eW : (υ.2 96 (eA N l)).toInt = (υ.2 96 (eA N k)).toInt := by rw [a3, b3, e94]
                have cb1 := cell_bd p2 (hb2 l hlt) a1 a2
                have cb2 := cell_bd o2 (hb2 k hk) b1 b2
                have eD : (υ.2 96 (eA N k) - o.1).toInt = (υ.2 96 (eA N k)).toInt - o.1.toInt := fb_subL (by omega) (by omega)
                have qD : (((υ.2 96 (eA N k) - o.1).toInt : Int) : Rat) = (1 - fl_ N (eO N) y k) * (((υ.2 96 (eA N k)).toInt : Int) : Rat) := by
                  rw [eD, Rat.intCast_sub, o2]; grind
                have pD : 0 < (υ.2 96 (eA N k) - o.1).toInt := by
                  apply rat_lt
                  rw [qD]
                  have w1 : (0 : Rat) < (((υ.2 96 (eA N k)).toInt : Int) : Rat) := Rat.intCast_lt_intCast.mpr b1
                  exact Rat.mul_pos (by grind) w1
                refine ho_bind (y_partS (ρ := ρ) (by omega) pD (by omega) ?_ b υ) (fun r hr => ho_some ⟨hr.2.one hp, N, by rw [hr.1]; exact hυ2⟩)
                rw [qD, p2, eW, ← hq (fun e => c (by rw [e])) hOl e94]
                grind
              · have hOl' : eO N l = false := by cases w : eO N l; rfl; exact absurd w hOl
                exact ho_t (by rw [hOl']; rfl) (ho_t rfl (ans0 (hz (Or.inr (Or.inl hOl')))))
            refine ho_if (fun c => ?_) (fun c => ?_)
            · have e := nI_inj (by omega) (by omega) c
              refine ho_bind (x_partS (p := 0) (q := 1) (ρ := 0) (by decide) (by decide) (by decide) (by decide +kernel) b w.2) (fun q hq => ho_some ?_)
              obtain ⟨q1, q2⟩ := hq
              rw [q1]
              exact model w.2 0 q.1 h0 q2 (fun _ => rfl) (fun z => absurd e z)
            · have ne : l ≠ k := fun e => c (by rw [e])
              refine ho_bind (x_takeS hN h0.CG (-1) (-1) (lv_all hN) hI) (fun τ hτ0 => ?_)
              obtain ⟨F1, h7, h8⟩ := hτ0
              have F1' : Fr CS w.2 τ := F1.mono (by decide)
              have h1 := h0.q F1'
              rw [h1.e26 hk, h1.e27 hk]
              refine ho_bind (x_solveS hN hI h1.CG h7 h8 _ _ hx hy) (fun υ hυ => ?_)
              obtain ⟨F2, -, -, W, hW, W0, W1, hS⟩ := hυ
              have h2 := h1.q (F2.mono (by decide : ∀ i, i ∈ WS → i ∈ CS))
              refine ho_chk (ib_nI (by omega) (by omega)) ?_
              rw [nI31 (k := l) (by omega)]
              have c1 := hS.2.2.2 l hlt
              have c2 := hS.2.2.2 k hk
              have cb1 := cell_bd c1 (hb2 l hlt) W0 W1
              have cb2 := cell_bd c2 (hb2 k hk) W0 W1
              have eD : (υ.2 6 7 - υ.2 18 k).toInt = W - (υ.2 18 k).toInt := by rw [fb_subL (by rw [hS.1]; omega) (by rw [hS.1]; omega), hS.1]
              have qD : (((υ.2 6 7 - υ.2 18 k).toInt : Int) : Rat) = (1 - fl_ N (eO N) y k) * (W : Rat) := by rw [eD, Rat.intCast_sub, c2]; grind
              have w1 : (0 : Rat) < (W : Rat) := Rat.intCast_lt_intCast.mpr W0
              have pD : 0 < (υ.2 6 7 - υ.2 18 k).toInt := by
                apply rat_lt
                rw [qD]
                exact Rat.mul_pos (by grind) w1
              have d0 : (1 - fl_ N (eO N) y k) ≠ 0 := by grind
              refine ho_bind (x_partS (ρ := fl_ N (eO N) y l / (1 - fl_ N (eO N) y k)) (by omega) pD (by omega) ?_ b υ) (fun q hq => ho_some ?_)
              · rw [qD, c1]; grind
              obtain ⟨q1, q2⟩ := hq
              rw [q1]
              refine model υ _ q.1 h2 q2 (fun z => ?_) (fun _ _ _ => by grind)
              have fz : fl_ N (eO N) y l = 0 := by
                rcases z with z | z | z
                · exact absurd z ne
                · unfold fl_; rw [if_neg (by rw [z]; decide)]
                · unfold fl_
                  by_cases hOl : eO N l = true
                  · have es := hI.2.1 l hlt hOl
                    have ek := hI.2.1 k hk hO
                    have zz := Sol.zero hN hI hy (J := sl (eA N l)) (fun i hi e => by
                      rw [hv hi]
                      unfold ds
                      rw [if_neg (fun w => z (by rw [← e, w])), if_neg (fun w => z (by rw [← e, w, ek]))]
                      grind)
                    rw [if_pos hOl, zz _ u1 rfl, zz _ u2 es.symm]; grind
                  · rw [if_neg hOl]
              rw [fz]; grind
          · rw [decide_eq_false nb]
            refine ho_f (by decide) (ho_bind (x_no h0) (fun q hq => ho_some ?_))
            unfold f_X6_spread
            refine ho_be (y_isLine hq.2 _) ?_
            try dsimp only
            rw [g1]
            refine ho_f (by decide) ?_
            refine ho_be (y_isLine hq.2 _) ?_
            try dsimp only
            rw [g2]
            refine ho_f (by decide) ?_
            refine ho_be (y_flag b q.2) ?_
            try dsimp only
            rw [g3]
            refine ho_f (by decide) ?_
            refine ho_be (y_isIn hN hq.2.MG hk) ?_
            try dsimp only
            refine ho_f (by rw [hO]; decide) (ho_bind (y_isBridge hq.2 hk hI') (fun t ht => ?_))
            obtain ⟨Qt, t1, -⟩ := ht
            rw [t1, hO, decide_eq_false nb]
            exact ho_f (by decide) (ho_bind (y_no (hq.2.m Qt)) (fun r hr => ho_some ⟨by first | rfl | rw [hr.1, hq.1], N, hr.2⟩))
        · have hO' : eO N k = false := by cases w : eO N k; rfl; exact absurd w hO
          refine ho_t (by rw [hO']; rfl) (ho_bind (x_no h) (fun q hq => ho_some ?_))
          unfold f_X6_spread
          refine ho_be (y_isLine hq.2 _) ?_
          try dsimp only
          rw [g1]
          refine ho_f (by decide) ?_
          refine ho_be (y_isLine hq.2 _) ?_
          try dsimp only
          rw [g2]
          refine ho_f (by decide) ?_
          refine ho_be (y_flag b q.2) ?_
          try dsimp only
          rw [g3]
          refine ho_f (by decide) ?_
          refine ho_be (y_isIn hN hq.2.MG hk) ?_
          try dsimp only
          exact ho_t (by rw [hO']; rfl) (ho_bind (y_no hq.2) (fun r hr => ho_some ⟨by first | rfl | rw [hr.1, hq.1], N, hr.2⟩))
      · have g3' : inR b 0 1 = false := by cases w : inR b 0 1; rfl; exact absurd w g3
        rw [g3']
        refine ho_t rfl (ho_bind (x_bad h) (fun q hq => ho_some ?_))
        unfold f_X6_spread
        refine ho_be (y_isLine hq.2 a) ?_
        try dsimp only
        rw [g1]
        refine ho_f (by decide) ?_
        refine ho_be (y_isLine hq.2 c) ?_
        try dsimp only
        rw [g2]
        refine ho_f (by decide) ?_
        refine ho_be (y_flag b q.2) ?_
        try dsimp only
        rw [g3']
        exact ho_t rfl (ho_bind (y_bad hq.2) (fun r hr => ho_some ⟨by first | rfl | rw [hr.1, hq.1], N, hr.2⟩))
    · have g2' : inR c 0 ((nL N : Int) - 1) = false := by cases w : inR c 0 ((nL N : Int) - 1); rfl; exact absurd w g2
      rw [g2']
      refine ho_t rfl (ho_bind (x_bad h) (fun q hq => ho_some ?_))
      unfold f_X6_spread
      refine ho_be (y_isLine hq.2 a) ?_
      try dsimp only
      rw [g1]
      refine ho_f (by decide) ?_
      refine ho_be (y_isLine hq.2 c) ?_
      try dsimp only
      rw [g2']
      exact ho_t rfl (ho_bind (y_bad hq.2) (fun r hr => ho_some ⟨by first | rfl | rw [hr.1, hq.1], N, hr.2⟩))
  · have g1' : inR a 0 ((nL N : Int) - 1) = false := by cases w : inR a 0 ((nL N : Int) - 1); rfl; exact absurd w g1
    rw [g1']
    refine ho_t rfl (ho_bind (x_bad h) (fun q hq => ho_some ?_))
    unfold f_X6_spread
    refine ho_be (y_isLine hq.2 a) ?_
    try dsimp only
    rw [g1']
    exact ho_t rfl (ho_bind (y_bad hq.2) (fun r hr => ho_some ⟨by first | rfl | rw [hr.1, hq.1], N, hr.2⟩))
end Op4
