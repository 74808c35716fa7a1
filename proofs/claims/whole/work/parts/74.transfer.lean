/-! transfer answers alike -/
section Tr2
variable {N : Net} {σ : St}
theorem op_transfer (h : IN N σ 0 0 0) (a b c : Int32) : OE N (f_X5_transfer a b c σ) (f_X6_transfer a b c) := by
  have hN := h.NV
  have hm := hN.2.2.1
  have hn := hN.2.1
  unfold OE f_X5_transfer
  refine ho_be (x_hasBus h a) ?_
  try dsimp only
  by_cases g1 : inR a 0 ((nB N : Int) - 1) = true
  · rw [g1]
    refine ho_f (by decide) (ho_be (x_hasBus h b) ?_)
    try dsimp only
    by_cases g2 : inR b 0 ((nB N : Int) - 1) = true
    · rw [g2]
      refine ho_f (by decide) ?_
      by_cases g3 : a = b
      · refine ho_t g3 (ho_bind (x_bad h) (fun q hq => ho_some ?_))
        unfold f_X6_transfer
        refine ho_be (y_isBus hq.2 a) ?_
        try dsimp only
        rw [g1]
        refine ho_f (by decide) (ho_be (y_isBus hq.2 b) ?_)
        try dsimp only
        rw [g2]
        exact ho_f (by decide) (ho_t g3 (ho_bind (y_bad hq.2) (fun r hr => ho_some ⟨by rw [hr.1, hq.1], N, hr.2⟩)))
      · refine ho_f g3 (ho_be (x_flag c σ) ?_)
        try dsimp only
        by_cases g4 : inR c 0 1 = true
        · rw [g4]
          refine ho_f (by decide) ?_
          obtain ⟨i, hi, rfl⟩ := inR_nI g1
          obtain ⟨j, hj, rfl⟩ := inR_nI g2
          have hI := slP_is hN (eO N)
          have si := hI.lt hi
          have sj := hI.lt hj
          refine ho_bind (x_takeS hN h.CG (-1) (-1) (lv_all hN) hI) (fun τ hτ => ?_)
          obtain ⟨F1, h7, h8⟩ := hτ
          have F1' : Fr CS σ τ := F1.mono (by decide)
          have hτ := h.q F1'
          refine ho_be (x_joins (by omega) hi hj (fun i hi => hI.lt hi) h8) ?_
          try dsimp only
          -- the reference up to its parts
          have ref : ∀ (σ' : St) (P : Int32 × St → Prop) {x y z : Int32}, IN N σ' x y z → (∀ υ : St, QM σ' υ → (∀ i, i < nB N → υ.1 94 i = nI (slP N (eO N) i)) → Ho (if υ.1 94 i = υ.1 94 j then (f_X6_inSet υ).bind (fun q16 => (f_X6_carries (nI i) (nI j) q16.1 q16.2).bind (fun q17 => f_X6_transfer_83 (nI i) (nI j) c (fun (x33 : Int32) (σ34 : St) => some (x33, σ34)) 1000 q17.1 (0 : Int32) q17.2)) else (f_X6_refuses (-3 : Int32) υ).bind (fun q35 => some (q35.1, q35.2))) P) → Ho (f_X6_transfer (nI i) (nI j) c σ') P := by
            intro σ' P x y z hσ' hP
            unfold f_X6_transfer
            refine ho_be (y_isBus hσ' _) ?_
            try dsimp only
            rw [g1]
            refine ho_f (by decide) (ho_be (y_isBus hσ' _) ?_)
            try dsimp only
            rw [g2]
            refine ho_f (by decide) (ho_f g3 (ho_be (y_flag c σ') ?_))
            try dsimp only
            rw [g4]
            refine ho_f (by decide) (ho_bind (y_inSet hN hσ'.MG) (fun s hs => ?_))
            obtain ⟨s1, s2⟩ := hs
            rw [s1]
            refine ho_bind (y_partsS hN hσ'.MG (s2.all hN) hI) (fun υ hυ => ?_)
            refine ho_chk (ib_nI (by omega) (by omega)) (ho_chk (ib_nI (by omega) (by omega)) ?_)
            rw [nI31 (k := i) (by omega), nI31 (k := j) (by omega)]
            exact hP υ (hυ.1.QM (by decide) (by decide)) hυ.2
          by_cases e : slP N (eO N) i = slP N (eO N) j
          · rw [decide_eq_true e]
            refine ho_f (by decide) (ho_bind (x_room hτ hI h7 h8 (xP_is hN _) (yP_is hN (nI i) (nI j) _)) (fun r hr => ?_))
            obtain ⟨F2, r1, r2, r3⟩ := hr
            have hr2 := hτ.q F2
            have r1' : r.1 = iI (tS N (nI i) (nI j) 0) := r1
            have tb : -1 ≤ tS N (nI i) (nI j) 0 ∧ tS N (nI i) (nI j) 0 ≤ 9999 := ⟨r2, r3⟩
            by_cases c1 : c = (1 : Int32)
            · subst c1
              rw [r1']
              refine ho_t rfl (ho_mono (x_t84 hr2 (nI i) (nI j) (nL N) 0 1000 r.2 (by omega) (by omega) Fr.refl tb (fun j hj => absurd hj (Nat.not_lt_zero j))) (fun q hq => ?_))
              obtain ⟨F3, q1, q2, q3⟩ := hq
              have hq := hr2.q F3
              refine ref q.2 _ hq (fun υ hυ h94 => ?_)
              have hυ2 := hq.m hυ
              rw [h94 i hi, h94 j hj]
              refine ho_t (by rw [e]) (ho_bind (y_inSet hN hυ2.MG) (fun s hs => ?_))
              obtain ⟨s1, s2⟩ := hs
              rw [s1]
              refine ho_bind (y_carries hυ2 hI (s2.all hN) g3 (xP_is hN _) (yP_is hN _ _ _) r2) (fun w hw => ?_)
              obtain ⟨Q3, w1⟩ := hw
              have w1' : w.1 = iI (tS N (nI i) (nI j) 0) := w1
              have hw2 := hυ2.m Q3
              rw [w1']
              refine ho_mono (y_t83 hw2 g3 q2 q3 (nL N) 0 1000 w.2 (by omega) (by omega) QM.refl tb) (fun v hv => ?_)
              exact ⟨by rw [hv.2, q1], N, hw2.m hv.1⟩
            · refine ho_f c1 (ho_some ?_)
              refine ref r.2 _ hr2 (fun υ hυ h94 => ?_)
              have hυ2 := hr2.m hυ
              rw [h94 i hi, h94 j hj]
              refine ho_t (by rw [e]) (ho_bind (y_inSet hN hυ2.MG) (fun s hs => ?_))
              obtain ⟨s1, s2⟩ := hs
              rw [s1]
              refine ho_bind (y_carries hυ2 hI (s2.all hN) g3 (xP_is hN _) (yP_is hN _ _ _) r2) (fun w hw => ?_)
              obtain ⟨Q3, w1⟩ := hw
              have hw2 := hυ2.m Q3
              rw [show (1000 : Nat) = 999 + 1 from rfl, f_X6_transfer_83]
              have fin : Ho (some (w.1, w.2)) (fun q => q.1 = r.1 ∧ ∃ N', IN N' q.2 0 0 0) := ho_some ⟨by rw [r1]; exact w1, N, hw2⟩
              exact ho_if (fun _ => fin) (fun _ => ho_f c1 fin)
          · rw [decide_eq_false e]
            refine ho_t rfl (ho_bind (x_no hτ) (fun q hq => ho_some ?_))
            refine ref q.2 _ hq.2 (fun υ hυ h94 => ?_)
            rw [h94 i hi, h94 j hj]
            exact ho_f (fun w => e (nI_inj (by omega) (by omega) w)) (ho_bind (y_no (hq.2.m hυ)) (fun r hr => ho_some ⟨by rw [hr.1, hq.1], N, hr.2⟩))
        · have g4' := bf_of g4
          rw [g4']
          refine ho_t rfl (ho_bind (x_bad h) (fun q hq => ho_some ?_))
          unfold f_X6_transfer
          refine ho_be (y_isBus hq.2 a) ?_
          try dsimp only
          rw [g1]
          refine ho_f (by decide) (ho_be (y_isBus hq.2 b) ?_)
          try dsimp only
          rw [g2]
          refine ho_f (by decide) (ho_f g3 (ho_be (y_flag c q.2) ?_))
          try dsimp only
          rw [g4']
          exact ho_t rfl (ho_bind (y_bad hq.2) (fun r hr => ho_some ⟨by rw [hr.1, hq.1], N, hr.2⟩))
    · have g2' := bf_of g2
      rw [g2']
      refine ho_t rfl (ho_bind (x_bad h) (fun q hq => ho_some ?_))
      unfold f_X6_transfer
      refine ho_be (y_isBus hq.2 a) ?_
      try dsimp only
      rw [g1]
      refine ho_f (by decide) (ho_be (y_isBus hq.2 b) ?_)
      try dsimp only
      rw [g2']
      exact ho_t rfl (ho_bind (y_bad hq.2) (fun r hr => ho_some ⟨by rw [hr.1, hq.1], N, hr.2⟩))
  · have g1' := bf_of g1
    rw [g1']
    refine ho_t rfl (ho_bind (x_bad h) (fun q hq => ho_some ?_))
    unfold f_X6_transfer
    refine ho_be (y_isBus hq.2 a) ?_
    try dsimp only
    rw [g1']
    exact ho_t rfl (ho_bind (y_bad hq.2) (fun r hr => ho_some ⟨by rw [hr.1, hq.1], N, hr.2⟩))
end Tr2
