/-! the reference: an island's square -/
theorem ho_be {α β : Type} {x : Option α} {a : α} {k : α → Option β} {P : β → Prop} (h : x = some a) (h2 : Ho (k a) P) : Ho (x.bind k) P := by rw [h]; exact h2
theorem jn_bI {β : Type} {c : Prop} {d : Decidable c} {K : Int32 × St → β} {σ : St} : jn K (fun j => if c then j ((1 : Int32), σ) else j ((0 : Int32), σ)) = K (bI (decide c), σ) := by
  unfold jn
  try dsimp only
  by_cases h : c
  · rw [if_pos h, decide_eq_true h]; rfl
  · rw [if_neg h, decide_eq_false h]; rfl
theorem y_gathers {σ : St} {N : Net} (hN : NV N) (hG : MG (σ.1 88) N) {lv : Nat → Bool} {sl : Nat → Nat} (hI : IslN N lv sl) (h94 : ∀ i, i < nB N → σ.1 94 i = nI (sl i)) {root : Nat} (hr : root < nB N) :
    Ho (f_X6_gathers (nI root) σ) (fun τ => Fr [87, 98] σ τ ∧ (∀ k, k ≠ 14 → τ.1 87 k = σ.1 87 k) ∧ τ.2 = σ.2 ∧ ∃ M me, Mem (nB N) sl root M me ∧ M ≤ 5 ∧ τ.1 87 14 = nI M ∧ ∀ k, k < M → τ.1 98 k = nI (me k)) := by
  have hn := hN.2.1
  have loop : ∀ (d i fuel : Nat) (τ : St) (M : Nat) (me : Nat → Nat), i + d = nB N → d < fuel → root < i → Fr [87, 98] σ τ → (∀ k, k ≠ 14 → τ.1 87 k = σ.1 87 k) → τ.2 = σ.2 → M + root + 1 ≤ i → Inc i M me → (∀ k, k < M → sl (me k) = root ∧ me k ≠ root) → (∀ j, j < i → sl j = root → j ≠ root → ∃ k, k < M ∧ me k = j) → τ.1 87 14 = nI M → (∀ k, k < M → τ.1 98 k = nI (me k)) → Ho (f_X6_gathers_9 (nI root) (fun (σ13 : St) => some σ13) fuel (nI i) τ) (fun τ => Fr [87, 98] σ τ ∧ (∀ k, k ≠ 14 → τ.1 87 k = σ.1 87 k) ∧ τ.2 = σ.2 ∧ ∃ M me, Mem (nB N) sl root M me ∧ M ≤ 5 ∧ τ.1 87 14 = nI M ∧ ∀ k, k < M → τ.1 98 k = nI (me k)) := by
    intro d
    induction d with
    | zero =>
      intro i fuel τ M me hid hf hri hF h87 h2 hM hInc hin hall h14 h98
      obtain ⟨fuel, rfl⟩ : ∃ f, fuel = f + 1 := ⟨fuel - 1, by omega⟩
      have e : i = nB N := by omega
      subst e
      rw [f_X6_gathers_9, hF.i (i := 88) (by decide), show (0 : Int32).toNatClampNeg = 0 from rfl, hG.1]
      exact ho_t (nI_ge' (Nat.le_refl _) (by omega)) (ho_some ⟨hF, h87, h2, M, me, ⟨hInc, hin, hall⟩, by omega, h14, h98⟩)
    | succ d ih =>
      intro i fuel τ M me hid hf hri hF h87 h2 hM hInc hin hall h14 h98
      obtain ⟨fuel, rfl⟩ : ∃ f, fuel = f + 1 := ⟨fuel - 1, by omega⟩
      have hin2 : i < nB N := by omega
      have hsi := hI.lt hin2
      rw [f_X6_gathers_9, hF.i (i := 88) (by decide), show (0 : Int32).toNatClampNeg = 0 from rfl, hG.1, nI31 (by omega), hF.i (i := 94) (by decide), h94 i hin2, h14]
      refine ho_f (nI_nge' (by omega) (by omega)) (ho_chk (ib_nI (by omega) (by omega)) (ho_if (fun c => ?_) (fun c => ?_)))
      · have c' := nI_inj (by omega) (by omega) c
        refine ho_chk (ib_nI (by omega) (by omega)) (ho_nm (ho_nm ?_))
        rw [nI31 (by omega), sI_ne _ _ _ (show 87 ≠ 98 by decide), h14, nI_1, nI_1]
        refine ih (i + 1) fuel _ (M + 1) (fun k => if k = M then i else me k) (by omega) (by omega) (by omega) ((hF.sI (by decide)).sI (by decide)) (fun k hk => ?_) h2 (by omega) ⟨fun k hk => ?_, fun k hk => ?_⟩ (fun k hk => ?_) (fun j hj hjr hjn => ?_) (sI_at _ _ _ _) (fun k hk => ?_)
        · rw [sI_off _ _ _ _ hk, sI_ne _ _ _ (show 87 ≠ 98 by decide)]; exact h87 k hk
        · try dsimp only
          split
          · omega
          · have := hInc.1 k (by omega); omega
        · try dsimp only
          rw [if_neg (show ¬ k = M by omega)]
          split
          · have := hInc.1 k (by omega); omega
          · exact hInc.2 k (by omega)
        · try dsimp only
          split
          · exact ⟨c', by omega⟩
          · exact hin k (by omega)
        · by_cases e : j = i
          · exact ⟨M, by omega, by (try dsimp only); rw [if_pos rfl, e]⟩
          · obtain ⟨k, hk, hkj⟩ := hall j (by omega) hjr hjn
            exact ⟨k, by omega, by (try dsimp only); rw [if_neg (by omega)]; exact hkj⟩
        · try dsimp only
          rw [sI_ne _ _ _ (show 98 ≠ 87 by decide)]
          by_cases e : k = M
          · rw [e, sI_at, if_pos rfl]
          · rw [sI_off _ _ _ _ e, if_neg e]; exact h98 k (by omega)
      · have c' : ¬ sl i = root := fun e => c (by rw [e])
        rw [nI_1]
        refine ih (i + 1) fuel τ M me (by omega) (by omega) (by omega) hF h87 h2 (by omega) ⟨fun k hk => by have := hInc.1 k hk; omega, hInc.2⟩ hin (fun j hj hjr hjn => ?_) h14 h98
        by_cases e : j = i
        · exact absurd (by rw [← e]; exact hjr) c'
        · exact hall j (by omega) hjr hjn
  unfold f_X6_gathers
  refine ho_nm (ho_nm ?_)
  rw [nI_1]
  refine loop (nB N - root - 1) (root + 1) 1000 _ 0 (fun _ => 0) (by omega) (by omega) (by omega) (Fr.refl.sI (by decide)) (fun k hk => sI_off _ _ _ _ hk) rfl (by omega) ⟨fun k hk => absurd hk (Nat.not_lt_zero k), fun k hk => absurd hk (by omega)⟩ (fun k hk => absurd hk (Nat.not_lt_zero k)) (fun j hj hjr hjn => ?_) (sI_at _ _ _ _) (fun k hk => absurd hk (Nat.not_lt_zero k))
  have := (hI.1 j (by omega)).1
  omega
section Sq
variable {N : Net} {S : Int32} {M : Nat} {me : Nat → Nat}
/-- what laysSquare finds: the members -/
def MeS (σ : St) (N : Net) (M : Nat) (me : Nat → Nat) : Prop := M ≤ 5 ∧ Inc (nB N) M me ∧ σ.1 87 14 = nI M ∧ ∀ k, k < M → σ.1 98 k = nI (me k)
theorem y_l28 (hN : NV N) {σ : St} (hG : MG (σ.1 88) N) (hM : MeS σ N M me) {col : Int32} {r c : Nat} (hr : r < M) (hc : c < M) {k : Int64 → St → Option St} {P : St → Prop} (hk : ∀ z : Int64, z.toInt = LaI N (fun l => bt S l) (nL N) (me r) (me c) → Ho (k z σ) P) :
    ∀ (d l fuel : Nat) (x : Int64), l + d = nL N → d < fuel → x.toInt = LaI N (fun l => bt S l) l (me r) (me c) → Ho (f_X6_laysSquare_28 S col (nI r) (nI c) k fuel x (nI l) σ) P := by
  have hn := hN.2.1
  have hm := hN.2.2.1
  obtain ⟨hM5, hInc, h14, h98⟩ := hM
  have mr := hInc.1 r hr
  have mc := hInc.1 c hc
  intro d
  induction d with
  | zero =>
    intro l fuel x hid hf hx
    obtain ⟨fuel, rfl⟩ : ∃ f, fuel = f + 1 := ⟨fuel - 1, by omega⟩
    have e : l = nL N := by omega
    subst e
    rw [f_X6_laysSquare_28, show (1 : Int32).toNatClampNeg = 1 from rfl, hG.2.1]
    exact ho_t (nI_ge' (Nat.le_refl _) (by omega)) (hk x hx)
  | succ d ih =>
    intro l fuel x hid hf hx
    obtain ⟨fuel, rfl⟩ : ∃ f, fuel = f + 1 := ⟨fuel - 1, by omega⟩
    have hl : l < nL N := by omega
    obtain ⟨q1, q2, q3, -⟩ := hG.2.2.2 l hl
    obtain ⟨v1, v2, v3, s1, s2, -⟩ := hN.2.2.2.2 l hl
    have bd := LaI_bd hN (fun l => bt S l) (t := l) (by omega) (me r) (me c)
    have L0 : f_X6_lineAt (nI l) (0 : Int32) σ = some (nI (eA N l), σ) := by rw [show (0 : Int32) = nI 0 from rfl, y_lineAt (by omega) (by omega), Nat.add_zero, q1]
    have L1 : f_X6_lineAt (nI l) (1 : Int32) σ = some (nI (eB N l), σ) := by rw [show (1 : Int32) = nI 1 from rfl, y_lineAt (by omega) (by omega), q2]
    have L2 : f_X6_lineAt (nI l) (2 : Int32) σ = some (iI (eS N l), σ) := by rw [show (2 : Int32) = nI 2 from rfl, y_lineAt (by omega) (by omega), q3]
    have step : ∀ (z : Int64) (t : Int), z.toInt = LaI N (fun l => bt S l) l (me r) (me c) + t → t = (if bt S l = true then eS N l * dsI N l (me r) * dsI N l (me c) else 0) → Ho (f_X6_laysSquare_28 S col (nI r) (nI c) k fuel z (nI l + 1) σ) P := by
      intro z t hz ht
      rw [nI_1]
      refine ih (l + 1) fuel z (by omega) (by omega) ?_
      rw [hz, ht]
      rfl
    have z0 : (x + (0 : Int64)).toInt = LaI N (fun l => bt S l) l (me r) (me c) + 0 := by
      have e0 : (0 : Int64).toInt = 0 := rfl
      rw [fb_addL (by rw [hx, e0]; omega) (by rw [hx, e0]; omega), hx, e0]
    have zp : (x + (iI (eS N l)).toInt64).toInt = LaI N (fun l => bt S l) l (me r) (me c) + eS N l := by
      have e0 : (iI (eS N l)).toInt64.toInt = eS N l := by rw [i2l_t, iI_t (by omega) (by omega)]
      rw [fb_addL (by rw [hx, e0]; omega) (by rw [hx, e0]; omega), hx, e0]
    have zm : (x + (-iI (eS N l)).toInt64).toInt = LaI N (fun l => bt S l) l (me r) (me c) + -eS N l := by
      have e0 : (-iI (eS N l)).toInt64.toInt = -eS N l := by rw [i2l_t, fb_negI (by rw [iI_t (by omega) (by omega)]; omega), iI_t (by omega) (by omega)]
      rw [fb_addL (by rw [hx, e0]; omega) (by rw [hx, e0]; omega), hx, e0]
    rw [f_X6_laysSquare_28, show (1 : Int32).toNatClampNeg = 1 from rfl, hG.2.1, nI31 (k := r) (by omega), nI31 (k := c) (by omega)]
    refine ho_f (nI_nge' (by omega) (by omega)) (ho_be L0 (ho_chk (ib_nI (by omega) (by omega)) ?_))
    dsimp only
    rw [h98 r hr, jn_bI]
    refine ho_be L1 ?_
    dsimp only
    rw [h98 r hr, jn_bI]
    have dA : decide (nI (eA N l) = nI (me r)) = decide (eA N l = me r) := decide_eq_decide.mpr ⟨fun e => nI_inj (by omega) (by omega) e, fun e => by rw [e]⟩
    have dB : decide (nI (eB N l) = nI (me r)) = decide (eB N l = me r) := decide_eq_decide.mpr ⟨fun e => nI_inj (by omega) (by omega) e, fun e => by rw [e]⟩
    rw [dA, dB]
    refine ho_jn ?_
    dsimp only
    have H9 := y_has (σ := σ) S (show l < 31 by omega)
    -- the end of all: what is added
    by_cases hv : bt S l = true
    · by_cases fA : eA N l = me r
      · have dr : dsI N l (me r) = 1 := by unfold dsI; rw [if_pos fA.symm, if_neg (fun e => v3 (fA.trans e))]; rfl
        rw [hv] at H9
        rw [decide_eq_true fA]
        refine ho_f (by decide) (ho_be L1 (ho_be H9 (ho_jn (ho_f (by first | decide | (dsimp only; done) | (dsimp only; decide)) (ho_f (by first | decide | (dsimp only; done) | (dsimp only; decide)) (ho_jn (ho_f (by first | decide | (dsimp only; done) | (dsimp only; decide)) (ho_if (fun e => ho_be L2 (ho_nm (step _ _ zp ?_))) (fun e => ?_)))))))))
        · have e' := nI_inj (by omega) (by omega) e
          rw [if_pos hv, ← e', dr]; omega
        · have e' : r ≠ c := fun w => e (by rw [w])
          have hne : me r ≠ me c := fun w => e' (hInc.inj hr hc w)
          refine ho_f (by first | decide | (dsimp only; done) | (dsimp only; decide)) (ho_chk (ib_nI (by omega) (by omega)) (ho_if (fun w => ho_be L2 (ho_nm (step _ _ zm ?_))) (fun w => ho_nm (step _ _ z0 ?_))))
          · have w' := nI_inj (by omega) (by omega) (w.trans (h98 c hc))
            have dc : dsI N l (me c) = -1 := by unfold dsI; rw [if_neg (fun z => hne (by rw [← fA, ← z])), if_pos w'.symm]; rfl
            rw [if_pos hv, dr, dc]; omega
          · have w' : eB N l ≠ me c := fun z => w ((congrArg nI z).trans (h98 c hc).symm)
            have dc : dsI N l (me c) = 0 := by unfold dsI; rw [if_neg (fun z => hne (by rw [← fA, ← z])), if_neg (fun z => w' z.symm)]; rfl
            rw [dc]; split <;> omega
      · by_cases fB : eB N l = me r
        · have dr : dsI N l (me r) = -1 := by unfold dsI; rw [if_neg (fun z => fA z.symm), if_pos fB.symm]; rfl
          rw [hv] at H9
          rw [decide_eq_false fA, decide_eq_true fB]
          refine ho_t (by decide) (ho_be L0 (ho_be H9 (ho_jn (ho_f (by first | decide | (dsimp only; done) | (dsimp only; decide)) (ho_t (by first | decide | (dsimp only; done) | (dsimp only; decide)) (ho_f (by first | decide | (dsimp only; done) | (dsimp only; decide)) (ho_jn (ho_f (by first | decide | (dsimp only; done) | (dsimp only; decide)) (ho_if (fun e => ho_be L2 (ho_nm (step _ _ zp ?_))) (fun e => ?_))))))))))
          · have e' := nI_inj (by omega) (by omega) e
            rw [if_pos hv, ← e', dr]; omega
          · have e' : r ≠ c := fun w => e (by rw [w])
            have hne : me r ≠ me c := fun w => e' (hInc.inj hr hc w)
            refine ho_f (by first | decide | (dsimp only; done) | (dsimp only; decide)) (ho_chk (ib_nI (by omega) (by omega)) (ho_if (fun w => ho_be L2 (ho_nm (step _ _ zm ?_))) (fun w => ho_nm (step _ _ z0 ?_))))
            · have w' := nI_inj (by omega) (by omega) (w.trans (h98 c hc))
              have dc : dsI N l (me c) = 1 := by unfold dsI; rw [if_pos w'.symm, if_neg (fun z => hne (by rw [← fB, ← z]))]; rfl
              rw [if_pos hv, dr, dc]; omega
            · have w' : eA N l ≠ me c := fun z => w ((congrArg nI z).trans (h98 c hc).symm)
              have dc : dsI N l (me c) = 0 := by unfold dsI; rw [if_neg (fun z => w' z.symm), if_neg (fun z => hne (by rw [← fB, ← z]))]; rfl
              rw [dc]; split <;> omega
        · have dr : dsI N l (me r) = 0 := by unfold dsI; rw [if_neg (fun z => fA z.symm), if_neg (fun z => fB z.symm)]; rfl
          rw [hv] at H9
          rw [decide_eq_false fA, decide_eq_false fB]
          refine ho_t (by decide) (ho_be L0 (ho_be H9 (ho_jn (ho_f (by first | decide | (dsimp only; done) | (dsimp only; decide)) (ho_t (by first | decide | (dsimp only; done) | (dsimp only; decide)) (ho_t (by first | decide | (dsimp only; done) | (dsimp only; decide)) (ho_jn (ho_t (by first | decide | (dsimp only; done) | (dsimp only; decide)) (ho_t (by first | decide | (dsimp only; done) | (dsimp only; decide)) (ho_nm (step _ _ z0 ?_)))))))))))
          rw [dr]; split <;> omega
    · have hv' : bt S l = false := by cases h : bt S l; rfl; exact absurd h hv
      have fin : Ho (f_X6_laysSquare_28 S col (nI r) (nI c) k fuel (x + (0 : Int64)) (nI l + 1) σ) P := step _ _ z0 (by rw [hv']; rfl)
      rw [hv'] at H9
      refine ho_if (fun _ => ho_be L0 (ho_be H9 (ho_jn (ho_t (by first | decide | (dsimp only; done) | (dsimp only; decide)) (ho_jn (ho_t (by first | decide | rfl | (dsimp only; decide)) (ho_t (by first | decide | rfl | (dsimp only; decide)) (ho_nm fin)))))))) (fun _ => ho_be L1 (ho_be H9 (ho_jn (ho_t (by first | decide | (dsimp only; done) | (dsimp only; decide)) (ho_jn (ho_t (by first | decide | rfl | (dsimp only; decide)) (ho_t (by first | decide | rfl | (dsimp only; decide)) (ho_nm fin))))))))
end Sq
