/-! the reference: laysSquare, swapsRows -/
theorem ix6 (r c : Nat) : (((6 : Int32) * nI r) + nI c) = nI (6 * r + c) := by
  show nI 6 * nI r + nI c = _
  rw [pk_mul, nI_add]
theorem ix7 (r : Nat) : ((7 : Int32) * nI r) = nI (7 * r) := by
  show nI 7 * nI r = _
  rw [pk_mul]
/-- the square that laysSquare lays: the column `col` holds the feeds -/
def sqI (N : Net) (S : Int32) (me : Nat → Nat) (fd : Nat → Int) (col : Int32) (r c : Nat) : Int := if nI c = col then fd (me r) else LaI N (fun l => bt S l) (nL N) (me r) (me c)
theorem ix6_inj {r c r' c' : Nat} (hc : c < 6) (hc' : c' < 6) (h : 6 * r + c = 6 * r' + c') : r = r' ∧ c = c' := by omega
section Ly
variable {N : Net} {S : Int32} {M : Nat} {me : Nat → Nat} {fd : Nat → Int} {col : Int32}
theorem y_l13 (hN : NV N) {σ : St} (hG : MG (σ.1 88) N) (hM : MeS σ N M me) (hfd : ∀ i, i < nB N → (σ.2 93 i).toInt = fd i) {r : Nat} (hr : r < M) {k : St → Option St} {P : St → Prop}
    (hk : ∀ τ : St, τ.1 = σ.1 → Fr [97] σ τ → (∀ r' c', r' < r + 1 → c' < M → (τ.2 97 (6 * r' + c')).toInt = sqI N S me fd col r' c') → Ho (k τ) P) :
    ∀ (d c fuel : Nat) (τ : St), c + d = M → d < fuel → τ.1 = σ.1 → Fr [97] σ τ → (∀ r' c', r' < r ∧ c' < M ∨ r' = r ∧ c' < c → (τ.2 97 (6 * r' + c')).toInt = sqI N S me fd col r' c') → Ho (f_X6_laysSquare_13 S col (nI r) k fuel (nI c) τ) P := by
  have hM' := hM
  obtain ⟨hM5, hInc, h14, h98⟩ := hM
  have hn := hN.2.1
  have mr := hInc.1 r hr
  intro d
  induction d with
  | zero =>
    intro c fuel τ hcd hf h1 hF hC
    obtain ⟨fuel, rfl⟩ : ∃ f, fuel = f + 1 := ⟨fuel - 1, by omega⟩
    have e : c = M := by omega
    subst e
    rw [f_X6_laysSquare_13, h1, h14]
    exact ho_t (nI_ge' (Nat.le_refl _) (by omega)) (hk τ h1 hF (fun r' c' hr' hc' => hC r' c' (by omega)))
  | succ d ih =>
    intro c fuel τ hcd hf h1 hF hC
    obtain ⟨fuel, rfl⟩ : ∃ f, fuel = f + 1 := ⟨fuel - 1, by omega⟩
    have hc : c < M := by omega
    rw [f_X6_laysSquare_13, h1, h14]
    refine ho_f (nI_nge' (by omega) (by omega)) ?_
    refine y_l28 hN (σ := τ) (M := M) (me := me) (by rw [h1]; exact hG) ⟨hM5, hInc, by rw [h1]; exact h14, by rw [h1]; exact h98⟩ hr hc (fun z hz => ?_) (nL N) 0 1000 (0 : Int64) (by omega) (by have := hN.2.2.1; omega) rfl
    have nx : ∀ v : Int64, v.toInt = sqI N S me fd col r c → Ho (f_X6_laysSquare_13 S col (nI r) k fuel (nI c + 1) (sL τ 97 (6 * r + c) v)) P := by
      intro v hv
      rw [nI_1]
      refine ih (c + 1) fuel _ (by omega) (by omega) (by rw [sL_1]; exact h1) (hF.sL (by decide)) (fun r' c' h => ?_)
      by_cases e : 6 * r' + c' = 6 * r + c
      · obtain ⟨e1, e2⟩ := ix6_inj (by omega) (by omega) e
        rw [e1, e2, sL_at]; exact hv
      · rw [sL_off _ _ _ _ e]
        refine hC r' c' ?_
        by_cases q : r' = r
        · have : c' ≠ c := fun w => e (by rw [q, w])
          omega
        · omega
    try dsimp only
    rw [ix6, nI31 (k := r) (by omega), nI31 (k := 6 * r + c) (by omega), h1, h98 r hr, nI31 (k := me r) (by omega)]
    refine ho_if (fun e => ?_) (fun e => ?_)
    · refine ho_chk (ib_nI (by omega) (by omega)) (ho_chk (ib_nI (by omega) (by omega)) (ho_chk (ib_nI (by omega) (by omega)) (ho_nm (nx _ ?_))))
      rw [hF.l (i := 93) (by decide), hfd _ mr]
      unfold sqI
      rw [if_pos e]
    · refine ho_chk (ib_nI (by omega) (by omega)) (ho_nm (nx _ ?_))
      unfold sqI
      rw [if_neg e]
      exact hz
theorem y_laysSquare (hN : NV N) {σ : St} (hG : MG (σ.1 88) N) (hM : MeS σ N M me) (hfd : ∀ i, i < nB N → (σ.2 93 i).toInt = fd i) :
    Ho (f_X6_laysSquare S col σ) (fun τ => τ.1 = σ.1 ∧ Fr [97] σ τ ∧ ∀ r c, r < M → c < M → (τ.2 97 (6 * r + c)).toInt = sqI N S me fd col r c) := by
  have hM5 := hM.1
  have h14 := hM.2.2.1
  have loop : ∀ (d r fuel : Nat) (τ : St), r + d = M → d < fuel → τ.1 = σ.1 → Fr [97] σ τ → (∀ r' c', r' < r → c' < M → (τ.2 97 (6 * r' + c')).toInt = sqI N S me fd col r' c') → Ho (f_X6_laysSquare_2 S col (fun (σ60 : St) => some σ60) fuel (nI r) τ) (fun τ => τ.1 = σ.1 ∧ Fr [97] σ τ ∧ ∀ r c, r < M → c < M → (τ.2 97 (6 * r + c)).toInt = sqI N S me fd col r c) := by
    intro d
    induction d with
    | zero =>
      intro r fuel τ hd hf h1 hF hC
      obtain ⟨fuel, rfl⟩ : ∃ f, fuel = f + 1 := ⟨fuel - 1, by omega⟩
      have e : r = M := by omega
      subst e
      rw [f_X6_laysSquare_2, h1, h14]
      exact ho_t (nI_ge' (Nat.le_refl _) (by omega)) (ho_some ⟨h1, hF, fun r c hr hc => hC r c hr hc⟩)
    | succ d ih =>
      intro r fuel τ hd hf h1 hF hC
      obtain ⟨fuel, rfl⟩ : ∃ f, fuel = f + 1 := ⟨fuel - 1, by omega⟩
      rw [f_X6_laysSquare_2, h1, h14]
      refine ho_f (nI_nge' (by omega) (by omega)) ?_
      refine y_l13 hN hG hM hfd (r := r) (by omega) (fun υ g1 gF gC => ?_) M 0 1000 τ (by omega) (by omega) h1 hF (fun r' c' h => hC r' c' (by omega) (by omega))
      rw [nI_1]
      exact ih (r + 1) fuel υ (by omega) (by omega) g1 gF gC
  unfold f_X6_laysSquare
  exact loop M 0 1000 σ (by omega) (by omega) rfl Fr.refl (fun r' c' h => absurd h (Nat.not_lt_zero r'))
end Ly
theorem y_swapsRows {σ : St} {M p q : Nat} (hM : M ≤ 5) (h14 : σ.1 87 14 = nI M) (hp : p < M) (hq : q < M) (hpq : p ≠ q) :
    Ho (f_X6_swapsRows (nI p) (nI q) σ) (fun τ => τ.1 = σ.1 ∧ Fr [97] σ τ ∧ ∀ r c, r < M → c < M → τ.2 97 (6 * r + c) = σ.2 97 (6 * (if r = q then p else if r = p then q else r) + c)) := by
  have loop : ∀ (d e fuel : Nat) (τ : St), e + d = M → d < fuel → τ.1 = σ.1 → Fr [97] σ τ → (∀ r c, r < M → c < M → τ.2 97 (6 * r + c) = if c < e then σ.2 97 (6 * (if r = q then p else if r = p then q else r) + c) else σ.2 97 (6 * r + c)) → Ho (f_X6_swapsRows_2 (nI p) (nI q) (fun (σ11 : St) => some σ11) fuel (nI e) τ) (fun τ => τ.1 = σ.1 ∧ Fr [97] σ τ ∧ ∀ r c, r < M → c < M → τ.2 97 (6 * r + c) = σ.2 97 (6 * (if r = q then p else if r = p then q else r) + c)) := by
    intro d
    induction d with
    | zero =>
      intro e fuel τ hd hf h1 hF hC
      obtain ⟨fuel, rfl⟩ : ∃ f, fuel = f + 1 := ⟨fuel - 1, by omega⟩
      have ee : e = M := by omega
      subst ee
      rw [f_X6_swapsRows_2, h1, h14]
      exact ho_t (nI_ge' (Nat.le_refl _) (by omega)) (ho_some ⟨h1, hF, fun r c hr hc => by rw [hC r c hr hc, if_pos hc]⟩)
    | succ d ih =>
      intro e fuel τ hd hf h1 hF hC
      obtain ⟨fuel, rfl⟩ : ∃ f, fuel = f + 1 := ⟨fuel - 1, by omega⟩
      have cp := hC p e hp (by omega)
      have cq := hC q e hq (by omega)
      rw [if_neg (Nat.lt_irrefl e)] at cp cq
      rw [f_X6_swapsRows_2, h1, h14, ix6, ix6, nI31 (k := 6 * p + e) (by omega), nI31 (k := 6 * q + e) (by omega), cp, cq]
      refine ho_f (nI_nge' (by omega) (by omega)) (ho_chk (ib_nI (by omega) (by omega)) (ho_nm (ho_chk (ib_nI (by omega) (by omega)) (ho_nm (ho_nm ?_)))))
      rw [nI_1]
      refine ih (e + 1) fuel _ (by omega) (by omega) (by rw [sL_1, sL_1]; exact h1) ((hF.sL (by decide)).sL (by decide)) (fun r c hr hc => ?_)
      by_cases ec : c = e
      · subst ec
        rw [if_pos (show c < c + 1 by omega)]
        by_cases eq : r = q
        · rw [eq, sL_at, if_pos rfl]
        · rw [sL_off _ _ _ _ (by omega), if_neg eq]
          by_cases ep : r = p
          · rw [ep, sL_at, if_pos rfl]
          · rw [sL_off _ _ _ _ (by omega), if_neg ep, hC r c hr hc, if_neg (Nat.lt_irrefl c)]
      · rw [sL_off _ _ _ _ (by omega), sL_off _ _ _ _ (by omega), hC r c hr hc]
        by_cases el : c < e
        · rw [if_pos el, if_pos (show c < e + 1 by omega)]
        · rw [if_neg el, if_neg (show ¬ c < e + 1 by omega)]
  unfold f_X6_swapsRows
  exact loop M 0 1000 σ (by omega) (by omega) rfl Fr.refl (fun r c _ _ => by rw [if_neg (Nat.not_lt_zero c)])
