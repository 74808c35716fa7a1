/-! the reference: judges, all of it; worst -/
theorem ho_jnP {α β : Type} {k : α → Option β} {b : (α → Option β) → Option β} {P : β → Prop} (Q : α → Prop) (hk : ∀ a, Q a → Ho (k a) P) (hb : ∀ k' : α → Option β, (∀ a, Q a → Ho (k' a) P) → Ho (b k') P) : Ho (jn k b) P := hb k hk
theorem bf_of {b : Bool} (h : ¬ b = true) : b = false := by cases b; rfl; exact absurd rfl h
section Jd2
variable {N : Net} {lv : Nat → Bool} {sl : Nat → Nat} {σ : St}
abbrev JM : List Nat := [87, 93, 94, 95, 96, 97, 98]
theorem SvJ.fr {W : List Nat} {σ τ : St} {x : Nat → Rat} {sl : Nat → Nat} {j : Nat} (h : SvJ σ x sl j) (hF : Fr W σ τ) (h5 : 95 ∉ W) (h6 : 96 ∉ W) : SvJ τ x sl j := by
  unfold SvJ
  rw [hF.l h5, hF.l h6]
  exact h
theorem y_lineAt3 (hN : NV N) (hG : MG (σ.1 88) N) {l : Nat} (hl : l < nL N) : f_X6_lineAt (nI l) (3 : Int32) σ = some (iI (eM N l), σ) := by
  have hm := hN.2.2.1
  rw [show (3 : Int32) = nI 3 from rfl, y_lineAt (by omega) (by omega), (hG.2.2.2 l hl).2.2.2.1]
theorem y_judges (h : IN N σ 0 0 0) (hI : IslN N lv sl) {S : Int32} (hl : ∀ l, l < nL N → bt S l = lv l) {x : Nat → Rat} (hx : SolN N lv sl (fQ N) x) :
    Ho (f_X6_judges S σ) (fun τ => Fr JM σ τ ∧ (∀ k, k ≠ 14 → k ≠ 15 → k ≠ 18 → τ.1 87 k = σ.1 87 k) ∧ Jy τ (jw (rho N lv x) lv (nL N)) (jc (rho N lv x) lv (nL N)) (rho N lv x)) := by
  have hN := h.NV
  have hm := hN.2.2.1
  have hn := hN.2.1
  have hb := fl_bd hN hx (fQ_bd hN) hI
  unfold f_X6_judges
  refine ho_bind (y_asTold hN h.MG) (fun τ1 h1 => ?_)
  obtain ⟨F1, h93⟩ := h1
  have hτ1 := h.m (F1.QM (by decide) (by decide))
  refine ho_bind (y_solvesS (fd := eQ N) hN hτ1.MG hl hI h93 (fun i hi => hN.2.2.2.1 i (by omega)) hx) (fun υ hυ => ?_)
  obtain ⟨F2, k2, -, h94, hJ⟩ := hυ
  have F12 : Fr JM σ υ := (F1.mono (by decide)).trans (F2.mono (by decide))
  have k12 : ∀ k, k ≠ 14 → υ.1 87 k = σ.1 87 k := fun k hk => by rw [k2 k hk, F1.i (i := 87) (by decide)]
  have hG : MG (υ.1 88) N := by rw [F12.i (i := 88) (by decide)]; exact h.MG
  have loop : ∀ (d l fuel : Nat) (τ : St), l + d = nL N → d < fuel → Fr [87] υ τ → (∀ k, k ≠ 15 → k ≠ 18 → τ.1 87 k = υ.1 87 k) → Jy τ (jw (rho N lv x) lv l) (jc (rho N lv x) lv l) (rho N lv x) → Ho (f_X6_judges_31 S (fun (σ36 : St) => some σ36) fuel (nI l) τ) (fun τ => Fr JM σ τ ∧ (∀ k, k ≠ 14 → k ≠ 15 → k ≠ 18 → τ.1 87 k = σ.1 87 k) ∧ Jy τ (jw (rho N lv x) lv (nL N)) (jc (rho N lv x) lv (nL N)) (rho N lv x)) := by
    intro d
    induction d with
    | zero =>
      intro l fuel τ hd hf hF hk hJy
      obtain ⟨fuel, rfl⟩ : ∃ f, fuel = f + 1 := ⟨fuel - 1, by omega⟩
      have e : l = nL N := by omega
      subst e
      rw [f_X6_judges_31, show (1 : Int32).toNatClampNeg = 1 from rfl, hF.i (i := 88) (by decide), hG.2.1]
      exact ho_t (nI_ge' (Nat.le_refl _) (by omega)) (ho_some ⟨F12.trans (hF.mono (by decide)), fun k a b c => by rw [hk k b c, k12 k a], hJy⟩)
    | succ d ih =>
      intro l fuel τ hd hf hF hk hJy
      obtain ⟨fuel, rfl⟩ : ∃ f, fuel = f + 1 := ⟨fuel - 1, by omega⟩
      have hlt : l < nL N := by omega
      obtain ⟨v1, v2, -, -, -, m1, m2⟩ := hN.2.2.2.2 l hlt
      have hG' : MG (τ.1 88) N := by rw [hF.i (i := 88) (by decide)]; exact hG
      have hJ' : ∀ j, j < nB N → SvJ τ x sl j := fun j hj => (hJ j hj).fr hF (by decide) (by decide)
      rw [f_X6_judges_31, show (1 : Int32).toNatClampNeg = 1 from rfl, hG'.2.1]
      refine ho_f (nI_nge' (by omega) (by omega)) (ho_be (y_has S (by omega)) ?_)
      try dsimp only
      rw [hl l hlt]
      by_cases hv : lv l = true
      · have step : ∀ τ' : St, Fr [87] τ τ' → (∀ k, k ≠ 15 → k ≠ 18 → τ'.1 87 k = τ.1 87 k) → Jy τ' (jst (rho N lv x) (jw (rho N lv x) lv l) l) (jc (rho N lv x) lv l + if 1 < rho N lv x l then 1 else 0) (rho N lv x) → Ho (f_X6_judges_31 S (fun (σ36 : St) => some σ36) fuel (nI l + 1) τ') (fun τ => Fr JM σ τ ∧ (∀ k, k ≠ 14 → k ≠ 15 → k ≠ 18 → τ.1 87 k = σ.1 87 k) ∧ Jy τ (jw (rho N lv x) lv (nL N)) (jc (rho N lv x) lv (nL N)) (rho N lv x)) := by
          intro τ' F' k' J'
          rw [nI_1]
          refine ih (l + 1) fuel τ' (by omega) (by omega) (hF.trans F') (fun k a b => by rw [k' k a b, hk k a b]) ?_
          rw [jw, jc, if_pos hv, if_pos hv]
          exact J'
        clear ih
        have o10 : ∀ w, jw (rho N lv x) lv l = some w → w < 10 := fun w hw2 => by have := jw_lt _ _ l w hw2; omega
        have cl := jc_le (rho N lv x) lv l
        generalize jw (rho N lv x) lv l = o at hJy step o10
        generalize jc (rho N lv x) lv l = c at hJy step cl
        rw [hv]
        refine ho_f (by decide) (ho_bind (y_flowOf hN hG' hl hI hJ' hb hlt) (fun q hq => ?_))
        obtain ⟨q1, q2⟩ := q
        obtain ⟨e1, e2⟩ := hq
        obtain rfl : q2 = τ := e1
        try dsimp only at e2
        obtain ⟨a1, a2, -, -⟩ := hJ' _ v1
        have cb := cell_bd e2 (hb l hlt) a1 a2
        refine ho_jnP (fun p : Int64 × St => p.1.toInt = (q1.toInt.natAbs : Int) ∧ p.2 = q2) (fun p hp => ?_) (fun j hj => ?_)
        · obtain ⟨p, p2⟩ := p
          obtain ⟨hp, e3⟩ := hp
          obtain rfl : p2 = q2 := e3
          try dsimp only at hp
          try dsimp only
          refine ho_be (y_lineAt0 hN hG' hlt) (ho_chk (ib_nI (by omega) (by omega)) (ho_be (y_lineAt3 hN hG' hlt) (ho_nm ?_)))
          try dsimp only
          rw [nI31 (by omega)]
          have e4 : (iI (eM N l)).toInt64.toInt = eM N l := by rw [i2l_t, iI_t (by omega) (by omega)]
          have b1 : 0 < (p2.2 96 (eA N l)).toInt * eM N l := Int.mul_pos a1 (by omega)
          have b2 : (p2.2 96 (eA N l)).toInt * eM N l ≤ 4084101 * 999 := Int.mul_le_mul a2 m2 (by omega) (by omega)
          have e5 : (p2.2 96 (eA N l) * (iI (eM N l)).toInt64).toInt = (p2.2 96 (eA N l)).toInt * eM N l := by rw [fb_mulL (by rw [e4]; omega) (by rw [e4]; omega), e4]
          have hQ : Qt p (p2.2 96 (eA N l) * (iI (eM N l)).toInt64) (rho N lv x l) := Qt.of a1 a2 m1 m2 (hb l hlt) e2 hp e5
          generalize p2.2 96 (eA N l) * (iI (eM N l)).toInt64 = D at hQ
          refine ho_bind (y_common (by rw [hp]; omega) hQ.2.2.2.1 (by have := hQ.2.2.2.2; omega) p2) (fun g hg => ?_)
          obtain ⟨g, g2⟩ := g
          obtain ⟨e6, hg⟩ := hg
          obtain rfl : g2 = p2 := e6
          try dsimp only at hg
          have hL := hQ.low hg
          have g0 : ¬ g = 0 := fun e => by
            have : Int.gcd p.toInt D.toInt = 0 := by rw [e] at hg; have : (0 : Int64).toInt = 0 := rfl; omega
            have := (Int.gcd_eq_zero_iff.mp this).2
            have := hQ.2.2.2.1
            omega
          obtain ⟨y1, y2, y3, y4⟩ := hJy
          refine ho_jnP (fun r : Int32 × St => r.1 = nI (if 1 < rho N lv x l then 1 else 0) ∧ r.2 = g2) (fun r hr => ?_) (fun j hj => ?_)
          · obtain ⟨r, r2⟩ := r
            obtain ⟨hr, e7⟩ := hr
            obtain rfl : r2 = g2 := e7
            try dsimp only at hr
            try dsimp only
            refine ho_nm ?_
            have ec : r2.1 87 18 + r = nI (c + if 1 < rho N lv x l then 1 else 0) := by rw [y4, hr, nI_add]
            rw [ec]
            refine ho_jnP (fun s : St => s = sI r2 87 18 (nI (c + if 1 < rho N lv x l then 1 else 0)) ∧ jst (rho N lv x) o l = some l) (fun s hs => ?_) (fun j hj => ?_)
            · obtain ⟨rfl, hs⟩ := hs
              try dsimp only
              refine ho_nm (ho_chk (decide_eq_true g0) (ho_nm (ho_nm (step _ ((((Fr.refl.sI (by decide)).sI (by decide)).sL (by decide)).sL (by decide)) (fun k a b => ?_) ?_))))
              · rw [sL_1, sL_1, sI_off _ _ _ _ a, sI_off _ _ _ _ b]
              · rw [hs]
                refine ⟨?_, ?_, ?_, ?_⟩
                · rw [sL_1, sL_1, sI_at]; rfl
                · rw [sL_at, sL_off _ _ _ _ (show 16 ≠ 17 by decide), sL_at]; exact hL.1
                · rw [sL_at, sL_off _ _ _ _ (show 16 ≠ 17 by decide), sL_at]; exact hL.2
                · rw [sL_1, sL_1, sI_off _ _ _ _ (show 18 ≠ 15 by decide), sI_at]
            · rw [sI_off _ _ _ _ (show 15 ≠ 18 by decide), y1, sI_2]
              refine ho_if (fun z => hj _ ⟨rfl, ?_⟩) (fun z => ho_chk (decide_eq_true g0) (ho_if (fun w => step _ (Fr.refl.sI (by decide)) (fun k a b => ?_) ?_) (fun w => hj _ ⟨rfl, ?_⟩)))
              · rw [(wi_ne o10).mp z]; rfl
              · rw [sI_off _ _ _ _ b]
              · have cm := (hL.1.cmp y2).mp w
                match o, y1, y2, y3, z, cm with
                | none, _, _, _, z, _ => exact absurd rfl z
                | some v, y1, y2, y3, _, cm =>
                  have ej : jst (rho N lv x) (some v) l = some v := by unfold jst; exact if_neg (by have : rho N lv x l ≤ rho N lv x v := cm; grind)
                  rw [ej]
                  exact ⟨by rw [sI_off _ _ _ _ (show 15 ≠ 18 by decide)]; exact y1, y2, y3, sI_at _ _ _ _⟩
              · have cm : ¬ rho N lv x l ≤ wr (rho N lv x) o := fun q => w ((hL.1.cmp y2).mpr q)
                match o, z, cm with
                | none, z, _ => exact absurd rfl z
                | some v, _, cm =>
                  unfold jst
                  exact if_pos (by have : ¬ rho N lv x l ≤ rho N lv x v := cm; grind)
          · refine ho_if (fun z => hj _ ⟨?_, rfl⟩) (fun z => hj _ ⟨?_, rfl⟩)
            · have := (cmpX1 hQ.1 hQ.2.2.2.1).mp z
              rw [if_neg (by grind)]; rfl
            · have : ¬ rho N lv x l ≤ 1 := fun w => z ((cmpX1 hQ.1 hQ.2.2.2.1).mpr w)
              rw [if_pos (by grind)]; rfl
        · try dsimp only
          refine ho_if (fun z => hj _ ⟨?_, rfl⟩) (fun z => hj _ ⟨?_, rfl⟩)
          · have := l_le.mp z
            have e0 : (0 : Int64).toInt = 0 := rfl
            show q1.toInt = _
            omega
          · have : ¬ (0 : Int64).toInt ≤ q1.toInt := fun w => z (l_le.mpr w)
            have e0 : (0 : Int64).toInt = 0 := rfl
            show (-q1).toInt = _
            rw [l_neg (by omega)]
            omega
      · have hv' := bf_of hv
        rw [hv', nI_1]
        refine ho_t rfl (ih (l + 1) fuel τ (by omega) (by omega) hF hk ?_)
        rw [jw, jc, if_neg hv, if_neg hv]
        exact hJy
  refine ho_nm (ho_nm (ho_nm (ho_nm (loop (nL N) 0 1000 _ (by omega) (by omega) ((((Fr.refl.sI (by decide)).sL (by decide)).sL (by decide)).sI (by decide)) (fun k a b => ?_) ⟨?_, ?_, ?_, sI_at _ _ _ _⟩))))
  · rw [sI_off _ _ _ _ b, sL_1, sL_1, sI_off _ _ _ _ a]
  · rw [sI_off _ _ _ _ (by decide), sL_1, sL_1, sI_at]; rfl
  · rw [sI_2, sL_at, sL_off _ _ _ _ (show 16 ≠ 17 by decide), sL_at]; exact Qt.zero
  · rw [sI_2, sL_at, sL_off _ _ _ _ (show 16 ≠ 17 by decide), sL_at]; exact (show LT 0 (Int64.toInt 0) (Int64.toInt 1) from ⟨by decide, by decide, by decide +kernel⟩)
/-- what worst answers -/
def WV (ρ : Nat → Rat) (o : Option Nat) (c : Nat) (b : Int32) (v : Int64) : Prop :=
  if b = 0 then v = (wi o).toInt64 else if b = 1 then PA (wr ρ o) 0 v else if b = 2 then PA (wr ρ o) 1 v else v = (nI c).toInt64
theorem WV.one {ρ : Nat → Rat} {o : Option Nat} {c : Nat} {b : Int32} {v w : Int64} (h : WV ρ o c b v) (g : WV ρ o c b w) : v = w := by
  unfold WV at h g
  by_cases c0 : b = 0
  · rw [if_pos c0] at h g; rw [h, g]
  · rw [if_neg c0] at h g
    by_cases c1 : b = 1
    · rw [if_pos c1] at h g; exact h.one g
    · rw [if_neg c1] at h g
      by_cases c2 : b = 2
      · rw [if_pos c2] at h g; exact h.one g
      · rw [if_neg c2] at h g; rw [h, g]
theorem Qt.part {p q : Int64} {α : Rat} (h : Qt p q α) (fl : Int32) (σ : St) : Ho (f_X5_part p q fl σ) (fun r => r.2 = σ ∧ PA α fl r.1) :=
  x_partS (by have := h.2.1; have := h.2.2.1; omega) h.2.2.2.1 (by have := h.2.2.2.2; omega) h.1 fl σ
/-- the class's answer of the state taken -/
theorem x_worst9 {τ : St} {ρ : Nat → Rat} {o : Option Nat} {c : Nat} (hJ : Jx τ o c ρ) (b : Int32) :
    Ho (if b = 0 then some ((τ.1 6 8).toInt64, τ) else (if b = 1 then (f_X5_part (τ.2 6 9) (τ.2 6 10) (0 : Int32) τ).bind (fun q11 => some (q11.1, q11.2)) else (if b = 2 then (f_X5_part (τ.2 6 9) (τ.2 6 10) (1 : Int32) τ).bind (fun q13 => some (q13.1, q13.2)) else some ((τ.1 6 11).toInt64, τ)))) (fun q => q.2 = τ ∧ WV ρ o c b q.1) := by
  obtain ⟨j1, j2, j3⟩ := hJ
  unfold WV
  refine ho_if (fun c0 => ho_some ⟨rfl, ?_⟩) (fun c0 => ho_if (fun c1 => ho_bind (j2.part 0 τ) (fun r hr => ho_some ⟨hr.1, ?_⟩)) (fun c1 => ho_if (fun c2 => ho_bind (j2.part 1 τ) (fun r hr => ho_some ⟨hr.1, ?_⟩)) (fun c2 => ho_some ⟨rfl, ?_⟩)))
  · rw [if_pos c0, j1]
  · rw [if_neg c0, if_pos c1]; exact hr.2
  · rw [if_neg c0, if_neg c1, if_pos c2]; exact hr.2
  · rw [if_neg c0, if_neg c1, if_neg c2, j3]
theorem y_worst9 {τ : St} {ρ : Nat → Rat} {o : Option Nat} {c : Nat} (hJ : Jy τ o c ρ) (b : Int32) :
    Ho (if b = 0 then some ((τ.1 87 15).toInt64, τ) else (if b = (1 : Int32) then some (τ.2 87 16, τ) else (if b = (2 : Int32) then some (τ.2 87 17, τ) else some ((τ.1 87 18).toInt64, τ)))) (fun q => q.2 = τ ∧ WV ρ o c b q.1) := by
  obtain ⟨j1, j2, j3, j4⟩ := hJ
  unfold WV
  refine ho_if (fun c0 => ho_some ⟨rfl, ?_⟩) (fun c0 => ho_if (fun c1 => ho_some ⟨rfl, ?_⟩) (fun c1 => ho_if (fun c2 => ho_some ⟨rfl, ?_⟩) (fun c2 => ho_some ⟨rfl, ?_⟩)))
  · rw [if_pos c0, j1]
  · rw [if_neg c0, if_pos c1]; exact ⟨_, _, j3, rfl⟩
  · rw [if_neg c0, if_neg c1, if_pos c2]; exact ⟨_, _, j3, rfl⟩
  · rw [if_neg c0, if_neg c1, if_neg c2, j4]
theorem Jd_QM {σ τ : St} (hF : Fr JM σ τ) (hk : ∀ k, k ≠ 14 → k ≠ 15 → k ≠ 18 → τ.1 87 k = σ.1 87 k) : QM σ τ := ⟨hF.mono (by decide), hk 3 (by decide) (by decide) (by decide), hk 6 (by decide) (by decide) (by decide)⟩
theorem op_worst (h : IN N σ 0 0 0) (a b : Int32) : OE N (f_X5_worst a b σ) (f_X6_worst a b) := by
  have hN := h.NV
  have hm := hN.2.2.1
  -- the middle, over any state of the lines
  have core : ∀ (lv : Nat → Bool), (∀ l, l < nL N → lvX N a (-1) l = lv l) → ∀ K : St → Option (Int64 × St), (∀ τ : St, IN N τ 0 0 0 → ∀ P : Int64 × St → Prop, (∀ S : Int32, (∀ l, l < nL N → bt S l = lv l) → Ho ((f_X6_judges S τ).bind (fun q9 => if b = 0 then some ((q9.1 87 15).toInt64, q9) else (if b = (1 : Int32) then some (q9.2 87 16, q9) else (if b = (2 : Int32) then some (q9.2 87 17, q9) else some ((q9.1 87 18).toInt64, q9))))) P) → Ho (K τ) P) →
      Ho ((f_X4_take a (-1 : Int32) σ).bind (fun q7 => (f_X4_load q7).bind (fun q8 => if b = 0 then some ((q8.1 6 8).toInt64, q8) else (if b = 1 then (f_X5_part (q8.2 6 9) (q8.2 6 10) (0 : Int32) q8).bind (fun q11 => some (q11.1, q11.2)) else (if b = 2 then (f_X5_part (q8.2 6 9) (q8.2 6 10) (1 : Int32) q8).bind (fun q13 => some (q13.1, q13.2)) else some ((q8.1 6 11).toInt64, q8)))))) (fun q => IN N q.2 0 0 0 ∧ Ho (K q.2) (fun r => r.1 = q.1 ∧ ∃ N', IN N' r.2 0 0 0)) := by
    intro lv hlv K hK
    obtain ⟨sl, hI⟩ := Isl.ex (nB N) (eA N) (eB N) lv (nL N) hN.ab
    obtain ⟨x, -, hx⟩ := Sol.ex hI hN.ab hN.s0 (fQ N)
    refine ho_bind (x_takeS hN h.CG a (-1) hlv hI) (fun τ hτ => ?_)
    obtain ⟨F1, h7, h8⟩ := hτ
    have hτ := h.q (F1.mono (by decide : ∀ i, i ∈ [7, 8] → i ∈ CS))
    refine ho_bind (x_load hτ hI h7 h8 hx) (fun υ hυ => ?_)
    obtain ⟨F2, J⟩ := hυ
    have hυ := hτ.q (F2.mono (by decide : ∀ i, i ∈ WS → i ∈ CS))
    refine ho_mono (x_worst9 J b) (fun q hq => ?_)
    obtain ⟨q1, q2⟩ := q
    obtain ⟨e, hw⟩ := hq
    obtain rfl : q2 = υ := e
    refine ⟨hυ, ?_⟩
    refine hK q2 hυ _ (fun S hS => ?_)
    refine ho_bind (y_judges hυ hI hS hx) (fun ω hω => ?_)
    obtain ⟨F3, k3, J3⟩ := hω
    refine ho_mono (y_worst9 J3 b) (fun r hr => ?_)
    exact ⟨hr.2.one hw, N, by rw [hr.1]; exact hυ.m (Jd_QM F3 k3)⟩
  -- what comes behind the guards, on both sides
  unfold OE f_X5_worst
  by_cases ea : a = (-1 : Int32)
  · subst ea
    refine ho_jn (ho_t rfl (ho_be (x_in3 b σ) ?_))
    try dsimp only
    by_cases g2 : inR b 0 3 = true
    · rw [g2]
      refine ho_f (by decide) (ho_jn (ho_t rfl ?_))
      refine ho_mono (core (eO N) (lv_all hN) (f_X6_worst (-1) b) (fun τ hτ P hP => ?_)) (fun q hq => hq.2)
      unfold f_X6_worst
      refine ho_jn (ho_t rfl (ho_be (y_in3 b _) ?_))
      try dsimp only
      rw [g2]
      refine ho_f (by decide) (ho_jn (ho_t rfl (ho_jn (ho_t rfl (ho_bind (y_inSet hN hτ.MG) (fun s hs => ?_))))))
      obtain ⟨s1, s2⟩ := hs
      try dsimp only
      rw [s1]
      exact hP s.1 (s2.all hN)
    · have g2' := bf_of g2
      rw [g2']
      refine ho_t rfl (ho_bind (x_bad h) (fun q hq => ho_some ?_))
      unfold f_X6_worst
      refine ho_jn (ho_t rfl (ho_be (y_in3 b _) ?_))
      try dsimp only
      rw [g2']
      exact ho_t rfl (ho_bind (y_bad hq.2) (fun r hr => ho_some ⟨by rw [hr.1, hq.1], N, hr.2⟩))
  · refine ho_jn (ho_f ea (ho_be (x_hasLine h a) ?_))
    try dsimp only
    by_cases g1 : inR a 0 ((nL N : Int) - 1) = true
    · rw [g1]
      refine ho_f (by decide) (ho_be (x_in3 b σ) ?_)
      try dsimp only
      by_cases g2 : inR b 0 3 = true
      · rw [g2]
        refine ho_f (by decide) ?_
        obtain ⟨k, hk, rfl⟩ := inR_nI g1
        refine ho_jn (ho_f ea (ho_chk (ib_nI (by omega) (by omega)) ?_))
        rw [nI31 (by omega), h.e30 hk]
        by_cases hO : eO N k = true
        · refine ho_f (by rw [hO]; decide) ?_
          refine ho_mono (core (lvW N k) (lv_wo hN hk) (f_X6_worst (nI k) b) (fun τ hτ P hP => ?_)) (fun q hq => hq.2)
          unfold f_X6_worst
          refine ho_jn (ho_f ea (ho_be (y_isLine hτ _) ?_))
          try dsimp only
          rw [g1]
          refine ho_f (by decide) (ho_be (y_in3 b _) ?_)
          try dsimp only
          rw [g2]
          refine ho_f (by decide) (ho_jn (ho_f ea (ho_be (y_isIn hN hτ.MG hk) ?_)))
          try dsimp only
          rw [hO]
          refine ho_f (by decide) (ho_jn (ho_f ea (ho_bind (y_inSet hN hτ.MG) (fun s hs => ?_))))
          obtain ⟨s1, s2⟩ := hs
          try dsimp only
          rw [s1]
          exact hP _ (s2.wo hN hk)
        · have hO' := bf_of hO
          refine ho_t (by rw [hO']; rfl) (ho_bind (x_no h) (fun q hq => ho_some ?_))
          unfold f_X6_worst
          refine ho_jn (ho_f ea (ho_be (y_isLine hq.2 _) ?_))
          try dsimp only
          rw [g1]
          refine ho_f (by decide) (ho_be (y_in3 b _) ?_)
          try dsimp only
          rw [g2]
          refine ho_f (by decide) (ho_jn (ho_f ea (ho_be (y_isIn hN hq.2.MG hk) ?_)))
          try dsimp only
          rw [hO']
          exact ho_t rfl (ho_bind (y_no hq.2) (fun r hr => ho_some ⟨by rw [hr.1, hq.1], N, hr.2⟩))
      · have g2' := bf_of g2
        rw [g2']
        refine ho_t rfl (ho_bind (x_bad h) (fun q hq => ho_some ?_))
        unfold f_X6_worst
        refine ho_jn (ho_f ea (ho_be (y_isLine hq.2 _) ?_))
        try dsimp only
        rw [g1]
        refine ho_f (by decide) (ho_be (y_in3 b _) ?_)
        try dsimp only
        rw [g2']
        exact ho_t rfl (ho_bind (y_bad hq.2) (fun r hr => ho_some ⟨by rw [hr.1, hq.1], N, hr.2⟩))
    · have g1' := bf_of g1
      rw [g1']
      refine ho_t rfl (ho_bind (x_bad h) (fun q hq => ho_some ?_))
      unfold f_X6_worst
      refine ho_jn (ho_f ea (ho_be (y_isLine hq.2 _) ?_))
      try dsimp only
      rw [g1']
      exact ho_t rfl (ho_bind (y_bad hq.2) (fun r hr => ho_some ⟨by rw [hr.1, hq.1], N, hr.2⟩))
end Jd2
