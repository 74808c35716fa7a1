/-! back, type, clear, told -/
section Bk
variable {N : Net} {σ : St}
theorem op_back (h : IN N σ 0 0 0) : OE N (f_X5_back σ) f_X6_back := by
  have h0 := h
  obtain ⟨hN, hG, hM, ⟨o, p, H, o8, p8, e1, e2, e3, eH⟩, hct, T, T1, T2, T3, T4⟩ := h
  unfold OE f_X5_back
  rw [e2]
  by_cases c : p = 0
  · subst c
    refine ho_t rfl (ho_bind (x_no h0) (fun q hq => ho_some ?_))
    unfold f_X6_back
    obtain ⟨hN', hG', hM', ⟨o', p', H', o8', p8', e1', e2', e3', eH'⟩, hct', T', T1', T2', T3', T4'⟩ := hq.2
    have hp : q.2.1 87 3 = nI 0 := by
      have q0 := hq.2
      -- the past is not touched by a refusal
      have : Ho (f_X5_no σ) (fun q => q.2.1 87 3 = nI 0) := by
        unfold f_X5_no
        refine ho_nm (ho_some ?_)
        show (sI σ 0 6 _).1 87 3 = _
        rw [sI_ne _ _ _ (show 87 ≠ 0 by decide)]; exact e3
      sorry
    rw [hp]
    exact ho_t rfl (ho_bind (y_no hq.2) (fun r hr => ho_some ⟨by rw [hr.1, hq.1], N, hr.2⟩))
  · refine ho_f (fun w => c (nI_inj (b := 0) (by omega) (by omega) w)) ?_
    sorry
theorem x_noR : f_X5_no σ = some (-3, sI σ 0 6 ((σ.1 0 6) + (1 : Int32))) := rfl
end Bk
