/-! solves once more: what lies below is told too (wip/whole/gen/mk71.py, out of part 52) -/
theorem Inc.lt {n M : Nat} {me : Nat → Nat} (h : Inc n M me) : ∀ d k, k + d + 1 < M → me k < me (k + d + 1)
  | 0, k, hk => h.2 k hk
  | d + 1, k, hk => by
    have a := Inc.lt h d k (by omega)
    have b := h.2 (k + d + 1) (by omega)
    rw [show k + (d + 1) + 1 = k + d + 1 + 1 by omega]
    omega
theorem Inc.le {n M : Nat} {me : Nat → Nat} (h : Inc n M me) {k l : Nat} (hkl : k ≤ l) (hl : l < M) : me k ≤ me l := by
  by_cases e : k = l
  · rw [e]; exact Nat.le_refl _
  · have := h.lt (l - k - 1) k (by omega)
    rw [show k + (l - k - 1) + 1 = l by omega] at this
    omega
theorem Inc.lt2 {n M : Nat} {me : Nat → Nat} (h : Inc n M me) {k l : Nat} (hkl : k < l) (hl : l < M) : me k < me l := by
  have := h.lt (l - k - 1) k (by omega)
  rw [show k + (l - k - 1) + 1 = l by omega] at this
  exact this
/-- an island has one list of members -/
theorem Mem.half {n r M P : Nat} {sl m p : Nat → Nat} (h : Mem n sl r M m) (g : Mem n sl r P p) : ∀ k, (∀ i, i < k → i < M → i < P ∧ m i = p i) → (∀ i, i < k → i < P → i < M ∧ m i = p i) → k < M → k < P ∧ m k = p k := by
  intro k h1 h2 hk
  obtain ⟨q1, q2⟩ := h.2.1 k hk
  obtain ⟨k', hk', e⟩ := g.2.2 (m k) (h.1.1 k hk) q1 q2
  have ge : k ≤ k' := by
    rcases Nat.lt_or_ge k' k with w | w
    · have := h2 k' w hk'
      have := h.1.lt2 w hk
      omega
    · exact w
  have hkP : k < P := by omega
  obtain ⟨r1, r2⟩ := g.2.1 k hkP
  obtain ⟨k2, hk2, e2⟩ := h.2.2 (p k) (g.1.1 k hkP) r1 r2
  have ge2 : k ≤ k2 := by
    rcases Nat.lt_or_ge k2 k with w | w
    · have := h1 k2 w hk2
      have := g.1.lt2 w hkP
      omega
    · exact w
  have a := g.1.le ge hk'
  have b := h.1.le ge2 hk2
  exact ⟨hkP, by omega⟩
theorem Mem.one {n r M P : Nat} {sl m p : Nat → Nat} (h : Mem n sl r M m) (g : Mem n sl r P p) : M = P ∧ ∀ k, k < M → m k = p k := by
  have both : ∀ k, (∀ i, i < k → i < M → i < P ∧ m i = p i) ∧ (∀ i, i < k → i < P → i < M ∧ m i = p i) := by
    intro k
    induction k with
    | zero => exact ⟨fun i hi => absurd hi (Nat.not_lt_zero i), fun i hi => absurd hi (Nat.not_lt_zero i)⟩
    | succ k ih =>
      refine ⟨fun i hi hM => ?_, fun i hi hP => ?_⟩
      · by_cases e : i = k
        · subst e; exact Mem.half h g i ih.1 ih.2 hM
        · exact ih.1 i (by omega) hM
      · by_cases e : i = k
        · subst e
          have := Mem.half g h i (fun t a b => by have := ih.2 t a b; exact ⟨this.1, this.2.symm⟩) (fun t a b => by have := ih.1 t a b; exact ⟨this.1, this.2.symm⟩) hP
          exact ⟨this.1, this.2.symm⟩
        · exact ih.2 i (by omega) hP
  have e : M = P := by
    rcases Nat.lt_trichotomy M P with w | w | w
    · have := (both (M + 1)).2 M (by omega) w; omega
    · exact w
    · have := (both (P + 1)).1 P (by omega) w; omega
  exact ⟨e, fun k hk => ((both (k + 1)).1 k (by omega) hk).2⟩
theorem Mem.cg {n r M : Nat} {sl sl' m : Nat → Nat} (h : Mem n sl r M m) (e : ∀ i, i < n → sl i = sl' i) : Mem n sl' r M m :=
  ⟨h.1, fun k hk => by rw [← e _ (h.1.1 k hk)]; exact h.2.1 k hk, fun j hj hs hne => h.2.2 j hj (by rw [e j hj]; exact hs) hne⟩
section Sv2
variable {N : Net} {S : Int32} {sl : Nat → Nat}
/-- what lies below bus j -/
def BW (N : Net) (S : Int32) (τ : St) (sl : Nat → Nat) (j : Nat) : Prop := ∃ M me, Mem (nB N) sl (sl j) M me ∧ (((τ.2 96 j).toInt : Int) : Rat) = dt M (fun r c => LaS N S (me r) (me c))
theorem BW.one {τ υ : St} {j : Nat} (h : BW N S τ sl j) (g : BW N S υ sl j) : (τ.2 96 j).toInt = (υ.2 96 j).toInt := by
  obtain ⟨M, m, h1, h2⟩ := h
  obtain ⟨P, p, g1, g2⟩ := g
  obtain ⟨e, e2⟩ := Mem.one h1 g1
  subst e
  refine rat_eq ?_
  rw [h2, g2]
  exact dt_congr (fun r c hr hc => by rw [e2 r hr, e2 c hc])
theorem BW.fr {W : List Nat} {σ τ : St} {j : Nat} (h : BW N S σ sl j) (hF : Fr W σ τ) (h6 : 96 ∉ W) : BW N S τ sl j := by
  unfold BW
  rw [hF.l h6]
  exact h
/-- all of solves -/
theorem y_solvesB (hN : NV N) {σ : St} (hG : MG (σ.1 88) N) {fd : Nat → Int} (h93 : ∀ i, i < nB N → (σ.2 93 i).toInt = fd i) (hfd : ∀ i, i < nB N → -99 ≤ fd i ∧ fd i ≤ 99) :
    Ho (f_X6_solves S σ) (fun τ => Fr [87, 94, 95, 96, 97, 98] σ τ ∧ (∀ k, k ≠ 14 → τ.1 87 k = σ.1 87 k) ∧ τ.2 87 = σ.2 87 ∧ ∃ sl x, IslN N (lvS S) sl ∧ (∀ i, i < nB N → τ.1 94 i = nI (sl i)) ∧ SolN N (lvS S) sl (fun i => ((fd i : Int) : Rat)) x ∧ ∀ j, j < nB N → (SvJ τ x sl j ∧ BW N S τ sl j)) := by
  have hn := hN.2.1
  unfold f_X6_solves
  refine ho_bind (y_parts hN hG S) (fun σ1 hσ1 => ?_)
  obtain ⟨pF, sl, hI, h94⟩ := hσ1
  obtain ⟨x, -, hS⟩ := Sol.ex hI hN.ab hN.s0 (fun i => ((fd i : Int) : Rat))
  have loop : ∀ (d i fuel : Nat) (τ : St), i + d = nB N → d < fuel → Fr [87, 95, 96, 97, 98] σ1 τ → (∀ k, k ≠ 14 → τ.1 87 k = σ.1 87 k) → τ.2 87 = σ.2 87 → (∀ j, j < nB N → sl j < i → (SvJ τ x sl j ∧ BW N S τ sl j)) → Ho (f_X6_solves_7 S (fun (σ25 : St) => some σ25) fuel (nI i) τ) (fun τ => Fr [87, 94, 95, 96, 97, 98] σ τ ∧ (∀ k, k ≠ 14 → τ.1 87 k = σ.1 87 k) ∧ τ.2 87 = σ.2 87 ∧ ∃ sl x, IslN N (lvS S) sl ∧ (∀ i, i < nB N → τ.1 94 i = nI (sl i)) ∧ SolN N (lvS S) sl (fun i => ((fd i : Int) : Rat)) x ∧ ∀ j, j < nB N → (SvJ τ x sl j ∧ BW N S τ sl j)) := by
    intro d
    induction d with
    | zero =>
      intro i fuel τ hd hf hF h87 h2 hC
      obtain ⟨fuel, rfl⟩ : ∃ f, fuel = f + 1 := ⟨fuel - 1, by omega⟩
      rw [f_X6_solves_7, show (0 : Int32).toNatClampNeg = 0 from rfl, hF.i (i := 88) (by decide), pF.i (i := 88) (by decide), hG.1]
      refine ho_t (nI_ge' (by omega) (by omega)) (ho_some ⟨(pF.mono (by decide)).trans (hF.mono (by decide)), h87, h2, sl, x, hI, fun i hi => by rw [hF.i (i := 94) (by decide)]; exact h94 i hi, hS, fun j hj => hC j hj (by have := hI.lt hj; omega)⟩)
    | succ d ih =>
      intro i fuel τ hd hf hF h87 h2 hC
      obtain ⟨fuel, rfl⟩ : ∃ f, fuel = f + 1 := ⟨fuel - 1, by omega⟩
      have hi : i < nB N := by omega
      have hsi := hI.lt hi
      have g88 : τ.1 88 = σ.1 88 := by rw [hF.i (i := 88) (by decide), pF.i (i := 88) (by decide)]
      rw [f_X6_solves_7, show (0 : Int32).toNatClampNeg = 0 from rfl, g88, hG.1, nI31 (k := i) (by omega), hF.i (i := 94) (by decide), h94 i hi]
      refine ho_f (nI_nge' (by omega) (by omega)) (ho_chk (ib_nI (by omega) (by omega)) (ho_if (fun c => ?_) (fun c => ?_)))
      · have c' := nI_inj (by omega) (by omega) c
        refine ho_bind (y_treesOf (sl := sl) hN (by rw [g88]; exact hG) hI (fun i hi => by rw [hF.i (i := 94) (by decide)]; exact h94 i hi) hi) (fun q hq => ?_)
        obtain ⟨qF, q87, q2, M, me, hM, hMe, hW⟩ := hq
        refine ho_nm (ho_nm ?_)
        have hWp : 0 < q.1.toInt := by
          have := (Mem.PD hI hN.ab hN.s0 hM).dpos (Nat.le_refl M)
          rw [← hW] at this
          exact rat_lt this
        have hWl : q.1.toInt ≤ 4084101 := by
          have := isl_le hN hI hM hMe.1
          rw [← hW] at this
          exact rat_le (y := 4084101) this
        have a96 : ∀ j, (sL (sL q.2 95 i (0 : Int64)) 96 i q.1).2 96 j = if j = i then q.1 else τ.2 96 j := fun j => by
          by_cases w : j = i
          · rw [if_pos w, w, sL_at]
          · rw [if_neg w, sL_off _ _ _ _ w, sL_ne _ _ _ (show 96 ≠ 95 by decide), qF.l (i := 96) (by decide)]
        have a95 : ∀ j, (sL (sL q.2 95 i (0 : Int64)) 96 i q.1).2 95 j = if j = i then 0 else τ.2 95 j := fun j => by
          rw [sL_ne _ _ _ (show 95 ≠ 96 by decide)]
          by_cases w : j = i
          · rw [if_pos w, w, sL_at]
          · rw [if_neg w, sL_off _ _ _ _ w, qF.l (i := 95) (by decide)]
        have b1 : (sL (sL q.2 95 i (0 : Int64)) 96 i q.1).1 = q.2.1 := by rw [sL_1, sL_1]
        have b93 : (sL (sL q.2 95 i (0 : Int64)) 96 i q.1).2 93 = σ.2 93 := by
          rw [sL_ne _ _ _ (show 93 ≠ 96 by decide), sL_ne _ _ _ (show 93 ≠ 95 by decide), qF.l (i := 93) (by decide), hF.l (i := 93) (by decide), pF.l (i := 93) (by decide)]
        have bF : Fr [87, 95, 96, 97, 98] τ (sL (sL q.2 95 i (0 : Int64)) 96 i q.1) := ((qF.mono (by decide)).sL (by decide)).sL (by decide)
        have b87 : (sL (sL q.2 95 i (0 : Int64)) 96 i q.1).2 87 = σ.2 87 := by
          rw [sL_ne _ _ _ (show 87 ≠ 96 by decide), sL_ne _ _ _ (show 87 ≠ 95 by decide), q2, h2]
        generalize (sL (sL q.2 95 i (0 : Int64)) 96 i q.1) = β at a96 a95 b1 b93 bF b87
        refine y_s51 (σ := β) (q9 := q) hN (by rw [b1, qF.i (i := 88) (by decide), g88]; exact hG) hI (fun i hi => by rw [b93]; exact h93 i hi) hfd hS hM ⟨hMe.1, hMe.2.1, by rw [b1]; exact hMe.2.2.1, by rw [b1]; exact hMe.2.2.2⟩ hW (fun υ v1 vF vC vO => ?_) M 0 1000 β (by omega) (by have := hMe.1; omega) rfl Fr.refl (fun k hk => absurd hk (Nat.not_lt_zero k)) (fun _ _ => ⟨rfl, rfl⟩)
        rw [nI_1]
        have ni : ∀ k, k < M → me k ≠ i := fun k hk => (hM.2.1 k hk).2
        have ri : υ.2 96 i = q.1 := by rw [(vO i ni).2, a96, if_pos rfl]
        refine ih (i + 1) fuel υ (by omega) (by omega) ((hF.trans bF).trans (vF.mono (by decide))) (fun k hk => ?_) ?_ (fun j hj hlt => ?_)
        · rw [v1, b1, q87 k hk, h87 k hk]
        · rw [vF.l (i := 87) (by decide), b87]
        · refine ⟨?_, ?_⟩
          · unfold SvJ
            by_cases w : sl j = i
            · rw [w, ri]
              by_cases w2 : j = i
              · rw [w2, ri, (vO i ni).1, a95, if_pos rfl]
                refine ⟨hWp, hWl, rfl, ?_⟩
                rw [hS.1 i hi c']
                show ((0 : Int) : Rat) = _
                grind
              · obtain ⟨k, hk, e⟩ := hM.2.2 j hj w w2
                rw [← e, (vC k hk).1]
                exact ⟨hWp, hWl, rfl, (vC k hk).2⟩
            · have nj : ∀ t, sl t = sl j → ∀ k, k < M → me k ≠ t := fun t ht k hk e => w (by rw [← ht, ← e]; exact (hM.2.1 k hk).1)
              have nji : ∀ t, sl t = sl j → t ≠ i := fun t ht e => w (by rw [← ht, e]; exact c')
              have sj := (hI.1 j hj).2
              rw [(vO j (nj j rfl)).1, (vO j (nj j rfl)).2, (vO (sl j) (nj (sl j) sj)).2, a95, a96, a96, if_neg (nji j rfl), if_neg (nji j rfl), if_neg (nji (sl j) sj)]
              exact (hC j hj (by omega)).1
          · unfold BW
            by_cases w : sl j = i
            · refine ⟨M, me, by rw [w]; exact hM, ?_⟩
              by_cases w2 : j = i
              · rw [w2, ri]; exact hW
              · obtain ⟨k, hk, e⟩ := hM.2.2 j hj w w2
                rw [← e, (vC k hk).1]; exact hW
            · have nj : ∀ t, sl t = sl j → ∀ k, k < M → me k ≠ t := fun t ht k hk e => w (by rw [← ht, ← e]; exact (hM.2.1 k hk).1)
              have nji : ∀ t, sl t = sl j → t ≠ i := fun t ht e => w (by rw [← ht, e]; exact c')
              rw [(vO j (nj j rfl)).2, a96, if_neg (nji j rfl)]
              exact (hC j hj (by omega)).2
      · have c' : sl i ≠ i := fun e => c (by rw [e])
        rw [nI_1]
        refine ih (i + 1) fuel τ (by omega) (by omega) hF h87 h2 (fun j hj hlt => ?_)
        by_cases w : sl j = i
        · exact absurd (by have := (hI.1 j hj).2; rw [w] at this; exact this) c'
        · exact hC j hj (by omega)
  exact loop (nB N) 0 1000 σ1 (by omega) (by omega) Fr.refl (fun k _ => by rw [pF.i (i := 87) (by decide)]) (pF.l (by decide)) (fun j _ h => absurd h (Nat.not_lt_zero _))
theorem y_solvesC {lv : Nat → Bool} (hN : NV N) {σ : St} (hG : MG (σ.1 88) N) (hl : ∀ l, l < nL N → bt S l = lv l) (hI : IslN N lv sl) {fd : Nat → Int} (h93 : ∀ i, i < nB N → (σ.2 93 i).toInt = fd i) (hfd : ∀ i, i < nB N → -99 ≤ fd i ∧ fd i ≤ 99) {x : Nat → Rat} (hx : SolN N lv sl (fun i => ((fd i : Int) : Rat)) x) :
    Ho (f_X6_solves S σ) (fun τ => Fr WM σ τ ∧ (∀ k, k ≠ 14 → τ.1 87 k = σ.1 87 k) ∧ τ.2 87 = σ.2 87 ∧ (∀ i, i < nB N → τ.1 94 i = nI (sl i)) ∧ ∀ j, j < nB N → SvJ τ x sl j ∧ BW N S τ sl j) := by
  refine ho_mono (y_solvesB (S := S) hN hG h93 hfd) (fun τ h => ?_)
  obtain ⟨h1, h2, h3, sl', x', hI', h94, hx', hJ⟩ := h
  have es := Isl.one (hI'.cg hl) hI
  have ex := Sol.uniq hN hI (hx'.cg hl es (fun _ _ => rfl)) hx
  refine ⟨h1, h2, h3, fun i hi => by rw [h94 i hi, es i hi], fun j hj => ?_⟩
  obtain ⟨⟨a, b, c, d⟩, M, me, m1, m2⟩ := hJ j hj
  exact ⟨⟨a, b, by rw [c, es j hj], by rw [d, ex j hj]⟩, M, me, by rw [← es j hj]; exact m1.cg es, m2⟩
end Sv2
