/-! trees, fed, shift (wip/whole/gen/ops60.py) -/
section Op5
variable {N : Net} {σ : St} {sl : Nat → Nat}
/-- the live lines of one island -/
def lvN (N : Net) (sl : Nat → Nat) (root l : Nat) : Bool := eO N l && decide (sl (eA N l) = root)
def slN (sl : Nat → Nat) (root i : Nat) : Nat := if sl i = root then root else i
theorem slN_isl (hN : NV N) (hI : IslN N (eO N) sl) {root : Nat} (hr : sl root = root) : IslN N (lvN N sl root) (slN sl root) := by
  refine ⟨fun i hi => ?_, fun l hl hv => ?_, fun P hP i hi => ?_⟩
  · unfold slN
    by_cases e : sl i = root
    · rw [if_pos e, if_pos hr]
      have := (hI.1 i hi).1
      exact ⟨by omega, rfl⟩
    · rw [if_neg e, if_neg e]
      exact ⟨Nat.le_refl i, rfl⟩
  · unfold lvN at hv
    rw [Bool.and_eq_true] at hv
    have h1 := hv.1
    have h2 : sl (eA N l) = root := of_decide_eq_true hv.2
    unfold slN
    rw [if_pos h2, if_pos (by rw [← hI.2.1 l hl h1]; exact h2)]
  · unfold slN
    by_cases e : sl i = root
    · rw [if_pos e]
      have q := hI.2.2 (fun j => sl j = root → P j) (fun l hl hv => by
        have es := hI.2.1 l hl hv
        by_cases c : sl (eA N l) = root
        · have hv' : lvN N sl root l = true := by unfold lvN; rw [hv, decide_eq_true c]; rfl
          have := hP l hl hv'
          exact ⟨fun w _ => this.mp (w c), fun w _ => this.mpr (w (by rw [← es]; exact c))⟩
        · exact ⟨fun _ w => absurd (by rw [es]; exact w) c, fun _ w => absurd w c⟩) i hi
      rw [e] at q
      exact ⟨fun w => q.mp (fun _ => w) hr, fun w => q.mpr (fun _ => w) rfl⟩
    · rw [if_neg e]
theorem dt_isl (hN : NV N) (hI : IslN N (eO N) sl) {root : Nat} (hr : sl root = root) {M : Nat} {me : Nat → Nat} (hM : Mem (nB N) sl root M me) {S : Int32} (hl : ∀ l, l < nL N → bt S l = eO N l) : dt (nB N) (AmQ N (lvN N sl root) (slN sl root)) = dt M (fun r c => LaS N S (me r) (me c)) := by
  rw [dt_mem (AmQ_PD hN (slN_isl hN hI hr)) hM.1.1 hM.1.2 (fun i hi hne => ?_)]
  · refine dt_congr (fun r c hr' hc' => ?_)
    obtain ⟨m1, m2⟩ := hM.2.1 r hr'
    obtain ⟨n1, n2⟩ := hM.2.1 c hc'
    have ns : ∀ {j}, sl j = root → j ≠ root → slN sl root j ≠ j := fun {j} a b e => by unfold slN at e; rw [if_pos a] at e; exact b e.symm
    show Am _ _ _ _ _ _ _ _ = _
    unfold Am
    rw [if_neg (ns m1 m2), if_neg (ns n1 n2)]
    refine sm_congr (fun l hl2 => ?_)
    show (if lvN N sl root l = true then _ else _) = (if bt S l = true then _ else _)
    rw [hl l hl2]
    unfold lvN
    by_cases hv : eO N l = true
    · rw [hv]
      by_cases c : sl (eA N l) = root
      · rw [decide_eq_true c]; rfl
      · have es := hI.2.1 l hl2 hv
        have z : ds (eA N) (eB N) l (me r) = 0 := by
          unfold ds
          rw [if_neg (fun w => c (by rw [← w]; exact m1)), if_neg (fun w => c (by rw [es, ← w]; exact m1))]
          grind
        rw [decide_eq_false c, z]
        simp only [Bool.true_and]
        rw [if_neg (by decide), if_pos trivial]
        grind
    · have hv' : eO N l = false := by cases w : eO N l; rfl; exact absurd w hv
      rw [hv']; rfl
  · have hs : slN sl root i = i := by
      unfold slN
      by_cases e : sl i = root
      · rw [if_pos e]
        by_cases w : i = root
        · exact w.symm
        · obtain ⟨k, hk, e2⟩ := hM.2.2 i hi e w
          exact absurd e2 (hne k hk)
      · rw [if_neg e]
    show Am _ _ _ _ _ _ _ _ = 1 ∧ ∀ j, j < nB N → j ≠ i → Am _ _ _ _ _ _ _ _ = 0
    unfold Am
    rw [if_pos hs, if_pos rfl]
    exact ⟨rfl, fun j _ hj => by rw [if_pos hs, if_neg hj]⟩
theorem x_narrow (h : IN N σ 0 0 0) (hI : IslN N (eO N) sl) (h7 : Lv7 σ N (eO N)) (h8 : ∀ i, i < nB N → σ.1 8 i = nI (sl i)) {i : Nat} (hi : i < nB N) :
    Ho (f_X4_narrow (nI i) σ) (fun τ => Fr CS σ τ ∧ Lv7 τ N (lvN N sl (sl i)) ∧ ∀ j, j < nB N → τ.1 8 j = nI (slN sl (sl i) j)) := by
  have hN := h.NV
  have hm := hN.2.2.1
  have hn := hN.2.1
  have hr := (hI.1 i hi).2
  have si := hI.lt hi
  have loop : ∀ (d l fuel : Nat) (τ : St), l + d = nL N → d < fuel → Fr [7] σ τ → (∀ q, q < nL N → τ.1 7 q = if q < l then bI (lvN N sl (sl i) q) else bI (eO N q)) → Ho (f_X4_narrow_9 (nI (sl i)) (fun (σ15 : St) => (f_X4_findIslands σ15).bind (fun q16 => some q16)) fuel (nI l) τ) (fun τ => Fr CS σ τ ∧ Lv7 τ N (lvN N sl (sl i)) ∧ ∀ j, j < nB N → τ.1 8 j = nI (slN sl (sl i) j)) := by
    intro d
    induction d with
    | zero =>
      intro l fuel τ hd hf hF hq
      obtain ⟨fuel, rfl⟩ : ∃ f, fuel = f + 1 := ⟨fuel - 1, by omega⟩
      have h7' : Lv7 τ N (lvN N sl (sl i)) := fun q hq2 => by rw [hq q hq2, if_pos (by omega)]
      have hτ := h.q (hF.mono (by decide : ∀ i, i ∈ [7] → i ∈ CS))
      rw [f_X4_narrow_9, hτ.CG.2.1]
      refine ho_t (nI_ge' (by omega) (by omega)) (ho_bind (x_findIslands hN hτ.CG h7') (fun υ hυ => ho_some ?_))
      obtain ⟨F2, sl2, hI2, h82⟩ := hυ
      refine ⟨(hF.mono (by decide)).trans (F2.mono (by decide)), fun q hq2 => by rw [F2.i (i := 7) (by decide)]; exact h7' q hq2, fun j hj => ?_⟩
      rw [h82 j hj, Isl.one hI2 (slN_isl hN hI hr) j hj]
    | succ d ih =>
      intro l fuel τ hd hf hF hq
      obtain ⟨fuel, rfl⟩ : ∃ f, fuel = f + 1 := ⟨fuel - 1, by omega⟩
      have hlt : l < nL N := by omega
      have hτ := h.q (hF.mono (by decide : ∀ i, i ∈ [7] → i ∈ CS))
      obtain ⟨v1, -⟩ := hN.2.2.2.2 l hlt
      have sa := hI.lt v1
      have nx : ∀ b : Bool, b = lvN N sl (sl i) l → Ho (f_X4_narrow_9 (nI (sl i)) (fun (σ15 : St) => (f_X4_findIslands σ15).bind (fun q16 => some q16)) fuel (nI l + 1) (sI τ 7 l (vp_nar .boolean (bI b)))) (fun τ => Fr CS σ τ ∧ Lv7 τ N (lvN N sl (sl i)) ∧ ∀ j, j < nB N → τ.1 8 j = nI (slN sl (sl i) j)) := by
        intro b hb
        rw [nI_1, bI_nar]
        refine ih (l + 1) fuel _ (by omega) (by omega) (hF.sI (by decide)) (fun q hq2 => ?_)
        by_cases e : q = l
        · rw [e, sI_at, if_pos (by omega), hb]
        · rw [sI_off _ _ _ _ e, hq q hq2]
          by_cases c : q < l
          · rw [if_pos c, if_pos (show q < l + 1 by omega)]
          · rw [if_neg c, if_neg (show ¬ q < l + 1 by omega)]
      rw [f_X4_narrow_9, hτ.CG.2.1, nI31 (k := l) (by omega), hq l hlt, if_neg (Nat.lt_irrefl l), hτ.e26 hlt, nI31 (k := eA N l) (by omega), hF.i (i := 8) (by decide), h8 _ v1]
      refine ho_f (nI_nge' (by omega) (by omega)) (ho_chk (ib_nI (by omega) (by omega)) ?_)
      by_cases hv : eO N l = true
      · refine ho_f (by rw [hv]; decide) (ho_chk (ib_nI (by omega) (by omega)) (ho_if (fun c => ho_nm (nx true ?_)) (fun c => ho_nm (nx false ?_))))
        · unfold lvN; rw [hv, decide_eq_true (nI_inj (by omega) (by omega) c)]; rfl
        · unfold lvN; rw [hv, decide_eq_false (fun e => c (by rw [e]))]; rfl
      · have hv' : eO N l = false := by cases w : eO N l; rfl; exact absurd w hv
        refine ho_t (by rw [hv']; rfl) (ho_nm (nx false ?_))
        unfold lvN; rw [hv']; rfl
  unfold f_X4_narrow
  refine ho_chk (ib_nI (by omega) (by omega)) (ho_nm ?_)
  rw [nI31 (by omega), h8 i hi]
  exact loop (nL N) 0 1000 σ (by omega) (by omega) Fr.refl (fun q hq => by rw [if_neg (Nat.not_lt_zero q)]; exact h7 q hq)
theorem op_trees (h : IN N σ 0 0 0) (a : Int32) : OE N (f_X5_trees a σ) (f_X6_trees a) := by
  unfold OE f_X5_trees
  refine ho_be (x_hasBus h a) ?_
  try dsimp only
  by_cases g1 : inR a 0 ((nB N : Int) - 1) = true
  · rw [g1]
    refine ho_f (by decide) ?_
    obtain ⟨i, hi, rfl⟩ := inR_nI g1
    have hN := h.NV
    have hm := hN.2.2.1
    have hn := hN.2.1
    obtain ⟨sl, hI⟩ := Isl.ex (nB N) (eA N) (eB N) (eO N) (nL N) hN.ab
    obtain ⟨x, -, hx⟩ := Sol.ex hI hN.ab hN.s0 (fQ N)
    obtain ⟨y, -, hy⟩ := Sol.ex hI hN.ab hN.s0 (pQ (-1) (-1))
    have hb := fl_bd hN hx (fQ_bd hN) hI
    have hb2 := fl_bd hN hy (fun i _ => pQ_bd _ _ i) hI
    have hr := (hI.1 i hi).2
    have si := hI.lt hi
    have hI2 := slN_isl hN hI hr
    obtain ⟨x2, -, hx2⟩ := Sol.ex hI2 hN.ab hN.s0 (fQ N)
    obtain ⟨y2, -, hy2⟩ := Sol.ex hI2 hN.ab hN.s0 (pQ (-1) (-1))
    refine ho_bind (x_takeS hN h.CG (-1) (-1) (lv_all hN) hI) (fun τ1 ht1 => ?_)
    obtain ⟨F1, h7, h8⟩ := ht1
    have h1 := h.q (F1.mono (by decide : ∀ i, i ∈ [7, 8] → i ∈ CS))
    refine ho_bind (x_narrow h1 hI h7 h8 hi) (fun τ2 ht2 => ?_)
    obtain ⟨F2, h72, h82⟩ := ht2
    have h2 := h1.q F2
    refine ho_bind (x_solveS hN hI2 h2.CG h72 h82 (-1) (-1) hx2 hy2) (fun τ ht3 => ho_some ?_)
    obtain ⟨F3, -, -, W, hW, W0, W1, hS⟩ := ht3
    have hτ := h2.q (F3.mono (by decide : ∀ i, i ∈ WS → i ∈ CS))
    unfold f_X6_trees
    refine ho_be (y_isBus hτ _) ?_
    try dsimp only
    rw [g1]
    refine ho_f (by decide) ?_
    refine ho_bind (y_inSet hN hτ.MG) (fun s hs => ?_)
    obtain ⟨s1, s2⟩ := hs
    rw [s1]
    refine ho_bind (y_partsS hN hτ.MG (s2.all hN) hI) (fun υ hυ => ?_)
    obtain ⟨F4, h94⟩ := hυ
    have hυ2 := hτ.m (F4.QM (by decide) (by decide))
    refine ho_bind (y_inSet hN hυ2.MG) (fun s' hs' => ?_)
    obtain ⟨s1', s2'⟩ := hs'
    rw [s1']
    refine ho_chk (ib_nI (by omega) (by omega)) ?_
    rw [nI31 (by omega), h94 i hi]
    have hIS : IslN N (lvS s'.1) sl := hI.cg (fun l hl => (s2'.all hN l hl).symm)
    refine ho_bind (y_treesOf (S := s'.1) hN hυ2.MG hIS h94 si) (fun r hr' => ho_some ⟨?_, N, ?_⟩)
    · obtain ⟨-, -, -, M, me, hM, -, hd⟩ := hr'
      apply l_ext
      apply rat_eq
      show ((r.1.toInt : Int) : Rat) = (((τ.2 6 7).toInt : Int) : Rat)
      rw [hd, hS.1, hW, dt_isl hN hI hr hM (s2'.all hN)]
    · obtain ⟨F5, k5, -⟩ := hr'
      exact hυ2.m ⟨F5.mono (by decide), k5 3 (by decide), k5 6 (by decide)⟩
  · have g1' : inR a 0 ((nB N : Int) - 1) = false := by cases w : inR a 0 ((nB N : Int) - 1); rfl; exact absurd w g1
    rw [g1']
    refine ho_t rfl (ho_bind (x_bad h) (fun q hq => ho_some ?_))
    unfold f_X6_trees
    refine ho_be (y_isBus hq.2 a) ?_
    try dsimp only
    rw [g1']
    exact ho_t rfl (ho_bind (y_bad hq.2) (fun r hr => ho_some ⟨by first | rfl | rw [hr.1, hq.1], N, hr.2⟩))
end Op5
