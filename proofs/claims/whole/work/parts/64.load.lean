/-! the class's load, all of it -/
section Ld2
variable {N : Net} {lv : Nat → Bool} {sl : Nat → Nat} {σ : St}
theorem x_load (h : IN N σ 0 0 0) (hI : IslN N lv sl) (h7 : Lv7 σ N lv) (h8 : ∀ i, i < nB N → σ.1 8 i = nI (sl i)) {x : Nat → Rat} (hx : SolN N lv sl (fQ N) x) :
    Ho (f_X4_load σ) (fun τ => Fr WS σ τ ∧ Jx τ (jw (rho N lv x) lv (nL N)) (jc (rho N lv x) lv (nL N)) (rho N lv x)) := by
  have hN := h.NV
  have hm := hN.2.2.1
  obtain ⟨y, -, hy⟩ := Sol.ex hI hN.ab hN.s0 (pQ (-1) (-1))
  have hb := fl_bd hN hx (fQ_bd hN) hI
  unfold f_X4_load
  refine ho_bind (x_solveS hN hI h.CG h7 h8 (-1) (-1) hx hy) (fun υ hυ => ?_)
  obtain ⟨F1, -, -, W, hW, W0, W1, hS⟩ := hυ
  have F1' : Fr CS σ υ := F1.mono (by decide)
  have hυ := h.q F1'
  have loop : ∀ (d l fuel : Nat) (τ : St), l + d = nL N → d < fuel → Fr [6] υ τ → (τ.2 6 7).toInt = W → Jx τ (jw (rho N lv x) lv l) (jc (rho N lv x) lv l) (rho N lv x) → Ho (f_X4_load_28 (fun (σ14 : St) => some σ14) fuel (nI l) τ) (fun τ => Fr WS σ τ ∧ Jx τ (jw (rho N lv x) lv (nL N)) (jc (rho N lv x) lv (nL N)) (rho N lv x)) := by
    intro d
    induction d with
    | zero =>
      intro l fuel τ hd hf hF hw hJ
      obtain ⟨fuel, rfl⟩ : ∃ f, fuel = f + 1 := ⟨fuel - 1, by omega⟩
      have e : l = nL N := by omega
      subst e
      rw [f_X4_load_28, hF.i (i := 24) (by decide), hυ.CG.2.1]
      exact ho_t (nI_ge' (Nat.le_refl _) (by omega)) (ho_some ⟨F1.trans (hF.mono (by decide)), hJ⟩)
    | succ d ih =>
      intro l fuel τ hd hf hF hw hJ
      obtain ⟨fuel, rfl⟩ : ∃ f, fuel = f + 1 := ⟨fuel - 1, by omega⟩
      have hlt : l < nL N := by omega
      obtain ⟨-, -, -, -, -, m1, m2⟩ := hN.2.2.2.2 l hlt
      have l7 : τ.1 7 l = bI (lv l) := by rw [hF.i (i := 7) (by decide), F1.i (i := 7) (by decide)]; exact h7 l hlt
      rw [f_X4_load_28, hF.i (i := 24) (by decide), hυ.CG.2.1, nI31 (k := l) (by omega), l7, hF.l (i := 17) (by decide), hF.i (i := 29) (by decide), hυ.e29 hlt]
      refine ho_f (nI_nge' (by omega) (by omega)) (ho_chk (ib_nI (by omega) (by omega)) ?_)
      by_cases hv : lv l = true
      · refine ho_f (by rw [hv]; decide) ?_
        have cb := cell_bd (hS.2.2.1 l hlt) (hb l hlt) W0 W1
        have e1 : (iI (eM N l)).toInt64.toInt = eM N l := by rw [i2l_t, iI_t (by omega) (by omega)]
        have b1 : 0 < W * eM N l := Int.mul_pos W0 (by omega)
        have b2 : W * eM N l ≤ 4084101 * 999 := Int.mul_le_mul W1 m2 (by omega) (by omega)
        have e2 : (τ.2 6 7 * (iI (eM N l)).toInt64).toInt = W * eM N l := by rw [fb_mulL (by rw [hw, e1]; omega) (by rw [hw, e1]; omega), hw, e1]
        have hQ := Qt.of W0 W1 m1 m2 (hb l hlt) (hS.2.2.1 l hlt) (l_abs (x := υ.2 17 l) (by omega)) e2
        refine ho_bind (x_weigh (ρ := rho N lv x) hJ (fun w hw2 => by have := jw_lt _ _ l w hw2; omega) hQ) (fun τ2 h2 => ?_)
        obtain ⟨F2, k2, J2⟩ := h2
        rw [nI_1]
        refine ih (l + 1) fuel τ2 (by omega) (by omega) (hF.trans F2) (by rw [k2 7 (by decide) (by decide)]; exact hw) ?_
        rw [jw, jc, if_pos hv, if_pos hv]
        exact J2
      · have hv' : lv l = false := by cases w : lv l; rfl; exact absurd w hv
        rw [nI_1]
        refine ho_t (by rw [hv']; rfl) (ih (l + 1) fuel τ (by omega) (by omega) hF hw ?_)
        rw [jw, jc, if_neg hv, if_neg hv]
        exact hJ
  refine ho_nm (ho_nm (ho_nm (ho_nm (loop (nL N) 0 1000 _ (by omega) (by omega) ((((Fr.refl.sI (by decide)).sL (by decide)).sL (by decide)).sI (by decide)) ?_ ⟨?_, ?_, sI_at _ _ _ _⟩))))
  · rw [sI_2, sL_off _ _ _ _ (by decide), sL_off _ _ _ _ (by decide), sI_2]; exact hS.1
  · rw [sI_off _ _ _ _ (by decide), sL_1, sL_1, sI_at]; rfl
  · rw [sI_2, sL_at, sL_off _ _ _ _ (show 9 ≠ 10 by decide), sL_at]; exact Qt.zero
end Ld2
