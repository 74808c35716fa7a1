/-! changes, the reference's side, and both together -/
section Mc
variable {N : Net} {τ : St}
theorem y_beginsNow (hG : MG (τ.1 88) N) (n : Nat) : Ho (f_X6_beginsNow (nI n) τ) (fun q => Fr [88] τ q.2 ∧ MG (q.2.1 88) (nBeg N n) ∧ q.1 = nI (nB N)) := by
  have loop : ∀ (d l fuel : Nat) (υ : St), l + d = 6 → d < fuel → Fr [88] τ υ → υ.1 88 0 = nI n → υ.1 88 1 = nI 0 → (∀ k, k < l → υ.1 88 (2 + k) = iI 0) → Ho (f_X6_beginsNow_23 (nI (nB N)) (fun (σ11 : St) => some (nI (nB N), σ11)) fuel (nI l) υ) (fun q => Fr [88] τ q.2 ∧ MG (q.2.1 88) (nBeg N n) ∧ q.1 = nI (nB N)) := by
    intro d
    induction d with
    | zero =>
      intro l fuel υ hd hf hF a1 a2 a3
      obtain ⟨fuel, rfl⟩ : ∃ f, fuel = f + 1 := ⟨fuel - 1, by omega⟩
      rw [f_X6_beginsNow_23]
      exact ho_t (nI_ge' (a := 6) (by omega) (by omega)) (ho_some ⟨hF, ⟨a1, a2, fun i hi => a3 i (by omega), fun l hl => absurd hl (Nat.not_lt_zero l)⟩, rfl⟩)
    | succ d ih =>
      intro l fuel υ hd hf hF a1 a2 a3
      obtain ⟨fuel, rfl⟩ : ∃ f, fuel = f + 1 := ⟨fuel - 1, by omega⟩
      rw [f_X6_beginsNow_23, ix2, nI31 (k := 2 + l) (by omega), nI_1 l]
      refine ho_f (nI_nge' (a := 6) (by omega) (by omega)) (ho_chk (ib_nI (by omega) (by omega)) (ho_nm (ih (l + 1) fuel _ (by omega) (by omega) (hF.sI (by decide)) ?_ ?_ (fun k hk => ?_))))
      · rw [sI_if, if_neg (by omega)]; exact a1
      · rw [sI_if, if_neg (by omega)]; exact a2
      · rw [sI_if]
        by_cases e : k = l
        · rw [if_pos (by omega)]; rfl
        · rw [if_neg (by omega)]; exact a3 k (by omega)
  unfold f_X6_beginsNow
  rw [show (0 : Int32).toNatClampNeg = 0 from rfl, show (1 : Int32).toNatClampNeg = 1 from rfl, hG.1]
  refine ho_nm (ho_nm (ho_nm (loop 6 0 1000 _ (by omega) (by omega) ((Fr.refl.sI (by decide)).sI (by decide)) ?_ ?_ (fun k hk => absurd hk (Nat.not_lt_zero k)))))
  · rw [sI_off _ _ _ _ (by decide), sI_at]
  · rw [sI_at]; rfl
theorem MG_feed (hN : NV N) (hG : MG (τ.1 88) N) {i : Nat} (hi : i < 6) (v : Int) : MG ((sI τ 88 (2 + i) (iI v)).1 88) (nFeed N i v) := by
  have hm := hN.2.2.1
  refine ⟨?_, ?_, fun k hk => ?_, fun l hl => ?_⟩
  · rw [sI_if, if_neg (by omega)]; exact hG.1
  · rw [sI_if, if_neg (by omega)]; exact hG.2.1
  · show _ = iI (if k = i then v else eQ N k)
    rw [sI_if]
    by_cases e : k = i
    · rw [if_pos (by omega), if_pos e]
    · rw [if_neg (by omega), if_neg e]; exact hG.2.2.1 k hk
  · rw [sI_if, sI_if, sI_if, sI_if, sI_if, if_neg (by omega), if_neg (by omega), if_neg (by omega), if_neg (by omega), if_neg (by omega)]
    exact hG.2.2.2 l hl
theorem y_feedNow (hN : NV N) (hG : MG (τ.1 88) N) {i : Nat} (hi : i < 6) (v : Int) : Ho (chk (ib ((2 : Int32) + nI i) 58) (nm (τ.1 88 ((2 : Int32) + nI i).toNatClampNeg) (fun x6 : Int32 => nm (sI τ 88 ((2 : Int32) + nI i).toNatClampNeg (iI v)) (fun σ7 : St => some (x6, σ7))))) (fun q => Fr [88] τ q.2 ∧ MG (q.2.1 88) (nFeed N i v) ∧ q.1 = iI (eQ N i)) := by
  rw [ix2, nI31 (by omega)]
  exact ho_chk (ib_nI (by omega) (by omega)) (ho_nm (ho_nm (ho_some ⟨Fr.refl.sI (by decide), MG_feed hN hG hi v, hG.2.2.1 i hi⟩)))
theorem y_lineNow (hN : NV N) (hG : MG (τ.1 88) N) (hn : nL N < 10) (a b : Nat) (s m : Int) : Ho (f_X6_lineNow (nI a) (nI b) (iI s) (iI m) τ) (fun q => Fr [88] τ q.2 ∧ MG (q.2.1 88) (nJoin N a b s m) ∧ q.1 = nI (nL N)) := by
  have hm := hN.2.2.1
  unfold f_X6_lineNow
  rw [show (1 : Int32).toNatClampNeg = 1 from rfl, hG.2.1]
  refine ho_nm ?_
  have e : (8 : Int32) + (5 : Int32) * nI (nL N) = nI (8 + 5 * nL N) := by
    show nI 8 + nI 5 * nI (nL N) = _
    rw [pk_mul, nI_add]
  rw [e, show nI (8 + 5 * nL N) + (0 : Int32) = nI (8 + 5 * nL N + 0) from nI_add _ 0, show nI (8 + 5 * nL N) + (1 : Int32) = nI (8 + 5 * nL N + 1) from nI_add _ 1, show nI (8 + 5 * nL N) + (2 : Int32) = nI (8 + 5 * nL N + 2) from nI_add _ 2, show nI (8 + 5 * nL N) + (3 : Int32) = nI (8 + 5 * nL N + 3) from nI_add _ 3, show nI (8 + 5 * nL N) + (4 : Int32) = nI (8 + 5 * nL N + 4) from nI_add _ 4]
  rw [nI31 (k := 8 + 5 * nL N + 0) (by omega), nI31 (k := 8 + 5 * nL N + 1) (by omega), nI31 (k := 8 + 5 * nL N + 2) (by omega), nI31 (k := 8 + 5 * nL N + 3) (by omega), nI31 (k := 8 + 5 * nL N + 4) (by omega)]
  refine ho_chk (ib_nI (by omega) (by omega)) (ho_nm (ho_chk (ib_nI (by omega) (by omega)) (ho_nm (ho_chk (ib_nI (by omega) (by omega)) (ho_nm (ho_chk (ib_nI (by omega) (by omega)) (ho_nm (ho_chk (ib_nI (by omega) (by omega)) (ho_nm (ho_nm (ho_some ?_)))))))))))
  have F5 : Fr [88] τ (sI (sI (sI (sI (sI τ 88 (8 + 5 * nL N + 0) (nI a)) 88 (8 + 5 * nL N + 1) (nI b)) 88 (8 + 5 * nL N + 2) (iI s)) 88 (8 + 5 * nL N + 3) (iI m)) 88 (8 + 5 * nL N + 4) (1 : Int32)) := ((((Fr.refl.sI (by decide)).sI (by decide)).sI (by decide)).sI (by decide)).sI (by decide)
  have c5 : ∀ q, (sI (sI (sI (sI (sI τ 88 (8 + 5 * nL N + 0) (nI a)) 88 (8 + 5 * nL N + 1) (nI b)) 88 (8 + 5 * nL N + 2) (iI s)) 88 (8 + 5 * nL N + 3) (iI m)) 88 (8 + 5 * nL N + 4) (1 : Int32)).1 88 q = if q = 8 + 5 * nL N + 4 then 1 else if q = 8 + 5 * nL N + 3 then iI m else if q = 8 + 5 * nL N + 2 then iI s else if q = 8 + 5 * nL N + 1 then nI b else if q = 8 + 5 * nL N + 0 then nI a else τ.1 88 q := fun q => by rw [sI_if, sI_if, sI_if, sI_if, sI_if]
  generalize (sI (sI (sI (sI (sI τ 88 (8 + 5 * nL N + 0) (nI a)) 88 (8 + 5 * nL N + 1) (nI b)) 88 (8 + 5 * nL N + 2) (iI s)) 88 (8 + 5 * nL N + 3) (iI m)) 88 (8 + 5 * nL N + 4) (1 : Int32)) = β at F5 c5
  have lo : ∀ q, q < 8 + 5 * nL N → β.1 88 q = τ.1 88 q := fun q hq => by rw [c5, if_neg (by omega), if_neg (by omega), if_neg (by omega), if_neg (by omega), if_neg (by omega)]
  have e1 : β.1 88 1 + (1 : Int32) = nI (nL N + 1) := by rw [lo 1 (by omega), hG.2.1]; exact nI_1 _
  rw [e1]
  refine ⟨F5.sI (by decide), ⟨?_, ?_, fun i hi => ?_, fun k hk => ?_⟩, ?_⟩
  · rw [sI_if, if_neg (by omega), lo 0 (by omega)]; exact hG.1
  · rw [sI_at]; rfl
  · rw [sI_if, if_neg (by omega), lo _ (by omega)]; exact hG.2.2.1 i hi
  · have hk' : k < nL N + 1 := hk
    rw [sI_if, sI_if, sI_if, sI_if, sI_if, if_neg (by omega), if_neg (by omega), if_neg (by omega), if_neg (by omega), if_neg (by omega)]
    show _ = nI (if k = nL N then a else eA N k) ∧ _ = nI (if k = nL N then b else eB N k) ∧ _ = iI (if k = nL N then s else eS N k) ∧ _ = iI (if k = nL N then m else eM N k) ∧ _ = bI (if k = nL N then true else eO N k)
    by_cases w : k = nL N
    · subst w
      rw [if_pos rfl, if_pos rfl, if_pos rfl, if_pos rfl, if_pos rfl]
      refine ⟨?_, ?_, ?_, ?_, ?_⟩
      · rw [c5, if_neg (by omega), if_neg (by omega), if_neg (by omega), if_neg (by omega), if_pos (by omega)]
      · rw [c5, if_neg (by omega), if_neg (by omega), if_neg (by omega), if_pos (by omega)]
      · rw [c5, if_neg (by omega), if_neg (by omega), if_pos (by omega)]
      · rw [c5, if_neg (by omega), if_pos (by omega)]
      · rw [c5, if_pos (by omega)]; rfl
    · rw [if_neg w, if_neg w, if_neg w, if_neg w, if_neg w, lo _ (by omega), lo _ (by omega), lo _ (by omega), lo _ (by omega), lo _ (by omega)]
      exact hG.2.2.2 k (by omega)
  · show (sI β 88 1 (nI (nL N + 1))).1 88 1 - (1 : Int32) = _
    rw [sI_at, nI_m1]
theorem y_dropsNow (hN : NV N) (hG : MG (τ.1 88) N) {l : Nat} (hl : l < nL N) : Ho (f_X6_dropsNow (nI l) τ) (fun q => Fr [88] τ q.2 ∧ MG (q.2.1 88) (nDrop N l) ∧ q.1 = nI (nL N - 1)) := by
  have hm := hN.2.2.1
  have e5 : ∀ a : Nat, (8 : Int32) + (5 : Int32) * nI a = nI (8 + 5 * a) := fun a => by
    show nI 8 + nI 5 * nI a = _
    rw [pk_mul, nI_add]
  have loop : ∀ (d k fuel : Nat) (υ : St), 8 + 5 * l ≤ k → k + d = 8 + 5 * (nL N - 1) → d < fuel → Fr [88] τ υ → υ.1 88 1 = nI (nL N - 1) → (∀ q, q ≠ 1 → υ.1 88 q = if 8 + 5 * l ≤ q ∧ q < k then τ.1 88 (q + 5) else τ.1 88 q) → Ho (f_X6_dropsNow_17 (fun (σ11 : St) => some ((σ11.1 88 (1 : Int32).toNatClampNeg), σ11)) fuel (nI k) υ) (fun q => Fr [88] τ q.2 ∧ MG (q.2.1 88) (nDrop N l) ∧ q.1 = nI (nL N - 1)) := by
    intro d
    induction d with
    | zero =>
      intro k fuel υ hk hd hf hF h1 hC
      obtain ⟨fuel, rfl⟩ : ∃ f, fuel = f + 1 := ⟨fuel - 1, by omega⟩
      rw [f_X6_dropsNow_17, show (1 : Int32).toNatClampNeg = 1 from rfl, h1, e5]
      refine ho_t (nI_ge' (by omega) (by omega)) (ho_some ⟨hF, ⟨?_, ?_, fun i hi => ?_, fun j hj => ?_⟩, rfl⟩)
      · rw [hC 0 (by omega), if_neg (by omega)]; exact hG.1
      · exact h1
      · rw [hC (2 + i) (by omega), if_neg (by omega)]; exact hG.2.2.1 i hi
      · have hj' : j < nL N - 1 := hj
        show _ = nI (if j < l then eA N j else eA N (j + 1)) ∧ _ = nI (if j < l then eB N j else eB N (j + 1)) ∧ _ = iI (if j < l then eS N j else eS N (j + 1)) ∧ _ = iI (if j < l then eM N j else eM N (j + 1)) ∧ _ = bI (if j < l then eO N j else eO N (j + 1))
        rw [hC _ (by omega), hC _ (by omega), hC _ (by omega), hC _ (by omega), hC _ (by omega)]
        by_cases w : j < l
        · rw [if_pos w, if_pos w, if_pos w, if_pos w, if_pos w, if_neg (by omega), if_neg (by omega), if_neg (by omega), if_neg (by omega), if_neg (by omega)]
          exact hG.2.2.2 j (by omega)
        · rw [if_neg w, if_neg w, if_neg w, if_neg w, if_neg w, if_pos (by omega), if_pos (by omega), if_pos (by omega), if_pos (by omega), if_pos (by omega)]
          have q := hG.2.2.2 (j + 1) (by omega)
          rw [show 8 + 5 * (j + 1) = 8 + 5 * j + 5 by omega] at q
          rw [show 8 + 5 * j + 1 + 5 = 8 + 5 * j + 5 + 1 by omega, show 8 + 5 * j + 2 + 5 = 8 + 5 * j + 5 + 2 by omega, show 8 + 5 * j + 3 + 5 = 8 + 5 * j + 5 + 3 by omega, show 8 + 5 * j + 4 + 5 = 8 + 5 * j + 5 + 4 by omega]
          exact q
    | succ d ih =>
      intro k fuel υ hk hd hf hF h1 hC
      obtain ⟨fuel, rfl⟩ : ∃ f, fuel = f + 1 := ⟨fuel - 1, by omega⟩
      rw [f_X6_dropsNow_17, show (1 : Int32).toNatClampNeg = 1 from rfl, h1, e5, show nI k + (5 : Int32) = nI (k + 5) from nI_add k 5, nI31 (k := k) (by omega), nI31 (k := k + 5) (by omega), nI_1 k, hC (k + 5) (by omega), if_neg (show ¬ (8 + 5 * l ≤ k + 5 ∧ k + 5 < k) by omega)]
      refine ho_f (nI_nge' (by omega) (by omega)) (ho_chk (ib_nI (by omega) (by omega)) (ho_chk (ib_nI (by omega) (by omega)) (ho_nm (ih (k + 1) fuel _ (by omega) (by omega) (by omega) (hF.sI (by decide)) ?_ (fun q hq => ?_)))))
      · rw [sI_if, if_neg (by omega)]; exact h1
      · rw [sI_if]
        by_cases w : q = k
        · rw [if_pos w, if_pos (by omega), w]
        · rw [if_neg w, hC q hq]
          by_cases z : 8 + 5 * l ≤ q ∧ q < k
          · rw [if_pos z, if_pos (by omega)]
          · rw [if_neg z, if_neg (by omega)]
  unfold f_X6_dropsNow
  rw [show (1 : Int32).toNatClampNeg = 1 from rfl, hG.2.1, nI_pd (by omega), e5]
  refine ho_nm (ho_nm (loop (5 * (nL N - 1 - l)) (8 + 5 * l) 1000 _ (Nat.le_refl _) (by omega) (by omega) (Fr.refl.sI (by decide)) (sI_at _ _ _ _) (fun q hq => ?_)))
  rw [sI_if, if_neg hq, if_neg (by omega)]
theorem y_becomes {w : Nat} (hN : NV N) {l : Nat} (hl : l < nL N) (hw : w < 5) (v : Int32) : f_X6_becomes (nI l) (nI w) v τ = some (τ.1 88 (8 + 5 * l + w), sI τ 88 (8 + 5 * l + w) v) := by
  have hm := hN.2.2.1
  unfold f_X6_becomes
  rw [y_lineAt (by omega) hw]
  show chk _ _ = _
  rw [li_ix (by omega) hw, nI31 (by omega)]
  unfold chk
  rw [if_pos (ib_nI (by omega) (by omega))]
  rfl
theorem MG_turn (hN : NV N) (hG : MG (τ.1 88) N) {l : Nat} (hl : l < nL N) (on : Bool) : MG ((sI τ 88 (8 + 5 * l + 4) (bI on)).1 88) (nTurn N l on) := by
  refine ⟨?_, ?_, fun k hk => ?_, fun k hk => ?_⟩
  · rw [sI_if, if_neg (by omega)]; exact hG.1
  · rw [sI_if, if_neg (by omega)]; exact hG.2.1
  · rw [sI_if, if_neg (by omega)]; exact hG.2.2.1 k hk
  · obtain ⟨a, b, c, d, e⟩ := hG.2.2.2 k hk
    rw [sI_if, sI_if, sI_if, sI_if, sI_if, if_neg (by omega), if_neg (by omega), if_neg (by omega), if_neg (by omega)]
    refine ⟨a, b, c, d, ?_⟩
    show _ = bI (if k = l then on else eO N k)
    by_cases w : k = l
    · rw [if_pos (by omega), if_pos w]
    · rw [if_neg (by omega), if_neg w]; exact e
theorem MG_str (hN : NV N) (hG : MG (τ.1 88) N) {l : Nat} (hl : l < nL N) (v : Int) : MG ((sI τ 88 (8 + 5 * l + 2) (iI v)).1 88) (nStr N l v) := by
  refine ⟨?_, ?_, fun k hk => ?_, fun k hk => ?_⟩
  · rw [sI_if, if_neg (by omega)]; exact hG.1
  · rw [sI_if, if_neg (by omega)]; exact hG.2.1
  · rw [sI_if, if_neg (by omega)]; exact hG.2.2.1 k hk
  · obtain ⟨a, b, c, d, e⟩ := hG.2.2.2 k hk
    rw [sI_if, sI_if, sI_if, sI_if, sI_if, if_neg (show ¬ 8 + 5 * k = 8 + 5 * l + 2 by omega), if_neg (show ¬ 8 + 5 * k + 1 = 8 + 5 * l + 2 by omega), if_neg (show ¬ 8 + 5 * k + 3 = 8 + 5 * l + 2 by omega), if_neg (show ¬ 8 + 5 * k + 4 = 8 + 5 * l + 2 by omega)]
    refine ⟨a, b, ?_, d, e⟩
    show _ = iI (if k = l then v else eS N k)
    by_cases w : k = l
    · rw [if_pos (by omega), if_pos w]
    · rw [if_neg (by omega), if_neg w]; exact c
theorem MG_bnd (hN : NV N) (hG : MG (τ.1 88) N) {l : Nat} (hl : l < nL N) (v : Int) : MG ((sI τ 88 (8 + 5 * l + 3) (iI v)).1 88) (nBnd N l v) := by
  refine ⟨?_, ?_, fun k hk => ?_, fun k hk => ?_⟩
  · rw [sI_if, if_neg (by omega)]; exact hG.1
  · rw [sI_if, if_neg (by omega)]; exact hG.2.1
  · rw [sI_if, if_neg (by omega)]; exact hG.2.2.1 k hk
  · obtain ⟨a, b, c, d, e⟩ := hG.2.2.2 k hk
    rw [sI_if, sI_if, sI_if, sI_if, sI_if, if_neg (show ¬ 8 + 5 * k = 8 + 5 * l + 3 by omega), if_neg (show ¬ 8 + 5 * k + 1 = 8 + 5 * l + 3 by omega), if_neg (show ¬ 8 + 5 * k + 2 = 8 + 5 * l + 3 by omega), if_neg (show ¬ 8 + 5 * k + 4 = 8 + 5 * l + 3 by omega)]
    refine ⟨a, b, c, ?_, e⟩
    show _ = iI (if k = l then v else eM N k)
    by_cases w : k = l
    · rw [if_pos (by omega), if_pos w]
    · rw [if_neg (by omega), if_neg w]; exact d
theorem y_isLineG (hN : NV N) (hG : MG (τ.1 88) N) (a : Int32) : f_X6_isLine a τ = some (bI (inR a 0 ((nL N : Int) - 1)), τ) := by
  unfold f_X6_isLine
  rw [show (1 : Int32).toNatClampNeg = 1 from rfl, hG.2.1]
  exact y_isOf hN.2.2.1 a τ
theorem y_isBusG (hN : NV N) (hG : MG (τ.1 88) N) (a : Int32) : f_X6_isBus a τ = some (bI (inR a 0 ((nB N : Int) - 1)), τ) := by
  unfold f_X6_isBus
  rw [show (0 : Int32).toNatClampNeg = 0 from rfl, hG.1]
  exact y_isOf (by have := hN.2.1; omega) a τ
theorem x_hasLineG (hN : NV N) (hG : CG τ 24 N) (a : Int32) : f_X0_hasLine 0 a τ = some (bI (inR a 0 ((nL N : Int) - 1)), τ) := x_has hN.2.2.1 hG.2.1 a τ
theorem x_hasBusG (hN : NV N) (hG : CG τ 24 N) (a : Int32) : f_X0_hasBus 0 a τ = some (bI (inR a 0 ((nB N : Int) - 1)), τ) := x_has (by have := hN.2.1; omega) hG.1 a τ
end Mc
abbrev CW : List Nat := [3, 5, 24, 25, 26, 27, 28, 29, 30]
abbrev MW : List Nat := [87, 88, 105]
section Oc
variable {N : Net} {σ : St}
/-- a change that is kept -/
theorem op_chg (h : IN N σ 0 0 0) {N' : Net} (hN' : NV N') {v : Int32} {fc fm : St → Option (Int32 × St)}
    (hc : ∀ τ, Fr GK σ τ → CG τ 24 N → Ho (fc τ) (fun q => Fr CW τ q.2 ∧ q.2.1 3 2 = τ.1 3 2 ∧ CG q.2 24 N' ∧ q.1 = v))
    (hm : ∀ τ, (∀ i, 91 ≤ i → τ.1 i = σ.1 i) → (∀ k, k ≠ 3 → τ.1 87 k = σ.1 87 k) → MG (τ.1 88) N → Ho (fm τ) (fun q => Fr MW τ q.2 ∧ q.2.1 87 3 = τ.1 87 3 ∧ q.2.1 87 6 = τ.1 87 6 ∧ MG (q.2.1 88) N' ∧ q.1 = v)) :
    Ho ((f_X1_keep σ).bind fc) (fun q => q.1 = v ∧ MG (q.2.1 88) N ∧ Ho ((f_X6_aside q.2).bind (fun q3 => (f_X6_keeps q3).bind fm)) (fun r => r.1 = v ∧ ∃ N', IN N' r.2 0 0 0)) := by
  obtain ⟨hN, hG, hM, ⟨o, p, H, o8, p8, e1, e2, e3, eH⟩, hct, T, T1, T2, T3, T4⟩ := h
  refine ho_bind (x_keep hN hG (o := o) (p := p) (H := H) ⟨o8, p8, e1, e2, fun k hk => (eH k hk).2.1⟩) (fun τ hτ => ?_)
  obtain ⟨F1, o', hX⟩ := hτ
  refine ho_mono (hc τ F1 (hG.of (fun k hk => F1.i (GK_out (by omega) (by omega))))) (fun q hq => ?_)
  obtain ⟨F2, q32, hC', qv⟩ := hq
  have b2 : ∀ i, 87 ≤ i → q.2.1 i = σ.1 i := fun i hi => by rw [F2.i (by simp [CW]; omega), F1.i (GK_out (by omega) (by omega))]
  refine ⟨qv, by rw [b2 88 (by omega)]; exact hM, ?_⟩
  refine y_keep hN (by rw [b2 88 (by omega)]; exact hM) p8 (fun k hk => (eH k hk).1) ⟨by rw [b2 87 (by omega)]; exact e3, fun k hk => by rw [b2 89 (by omega)]; exact (eH k hk).2.2⟩ (fun υ F3 k3 hM3 => ?_)
  have d88 : υ.1 88 = σ.1 88 := by rw [F3.i (by decide), b2 88 (by omega)]
  refine ho_mono (hm υ (fun i hi => by rw [F3.i (by simp; omega), b2 i (by omega)]) (fun k hk => by rw [k3 k hk, b2 87 (by omega)]) (by rw [d88]; exact hM)) (fun r hr => ?_)
  obtain ⟨F4, r3, r6, hM', rv⟩ := hr
  refine ⟨rv, N', hN', ?_, hM', ⟨o', puP p, puH p H N, hX.1, hX.2.1, ?_, ?_, ?_, fun k hk => ⟨puH_NV hN p8 (fun k hk => (eH k hk).1) k hk, ?_, ?_⟩⟩, ?_, T, T1, ?_, ?_, ?_⟩
  · exact hC'.of (fun k hk => by rw [F4.i (by simp [MW]; omega), F3.i (by simp; omega)])
  · rw [F4.i (i := 1) (by decide), F3.i (i := 1) (by decide), F2.i (i := 1) (by decide)]; exact hX.2.2.1
  · rw [F4.i (i := 1) (by decide), F3.i (i := 1) (by decide), F2.i (i := 1) (by decide)]; exact hX.2.2.2.1
  · rw [r3]; exact hM3.1
  · have lt8 : (o' + k) % 8 < 8 := Nat.mod_lt _ (by omega)
    refine (hX.2.2.2.2 k hk).of (fun w hw => ?_)
    rw [F4.i (by simp [MW]; omega), F3.i (by simp; omega), F2.i (by simp [CW]; omega)]
  · rw [F4.i (i := 89) (by decide)]; exact hM3.2 k hk
  · rw [F4.i (i := 0) (by decide), F3.i (i := 0) (by decide), F2.i (i := 0) (by decide), F1.i (i := 0) (GK_out (by omega) (by omega)), F4.i (i := 91) (by decide), F3.i (i := 91) (by decide), b2 91 (by omega)]
    exact hct
  · rw [F4.i (i := 3) (by decide), F3.i (i := 3) (by decide), q32, F1.i (i := 3) (GK_out (by omega) (by omega))]; exact T2
  · rw [r6, k3 6 (by decide), b2 87 (by omega)]; exact T3
  · rw [F4.i (i := 4) (by decide), F3.i (i := 4) (by decide), F2.i (i := 4) (by decide), F1.i (i := 4) (GK_out (by omega) (by omega)), F4.i (i := 92) (by decide), F3.i (i := 92) (by decide), b2 92 (by omega), F4.i (i := 104) (by decide), F3.i (i := 104) (by decide), b2 104 (by omega)]
    exact T4
end Oc
