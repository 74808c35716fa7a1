/-! transfer, both sides -/
section Tr
variable {N : Net} {lv : Nat → Bool} {sl : Nat → Nat} {σ : St}
theorem mnV_le (x y : Nat → Rat) (l : Nat) : ∀ d, mnV N lv x y (l + d) ≤ mnV N lv x y l
  | 0 => Int.le_refl _
  | d + 1 => by
    have := mnV_le x y l d
    rw [← Nat.add_assoc, mnV]
    split <;> omega
theorem y_carries (h : IN N σ 0 0 0) (hI : IslN N lv sl) {S : Int32} (hl : ∀ l, l < nL N → bt S l = lv l) {x y : Nat → Rat} {pl mi : Int32} (hpm : pl ≠ mi) (hx : SolN N lv sl (fQ N) x) (hy : SolN N lv sl (pQ pl mi) y) (hge : -1 ≤ mnV N lv x y (nL N)) :
    Ho (f_X6_carries pl mi S σ) (fun q => QM σ q.2 ∧ q.1 = iI (mnV N lv x y (nL N))) := by
  have hN := h.NV
  have hm := hN.2.2.1
  have hn := hN.2.1
  have hb := fl_bd hN hx (fQ_bd hN) hI
  have hb2 := fl_bd hN hy (fun i _ => pQ_bd pl mi i) hI
  unfold f_X6_carries
  refine ho_bind (y_asTold hN h.MG) (fun τ1 h1 => ?_)
  obtain ⟨F1, h93⟩ := h1
  have hτ1 := h.m (F1.QM (by decide) (by decide))
  refine ho_bind (y_solvesC (fd := eQ N) hN hτ1.MG hl hI h93 (fun i hi => hN.2.2.2.1 i (by omega)) hx) (fun υ1 hυ => ?_)
  obtain ⟨F2, k2, -, h94, hJ1⟩ := hυ
  have Q1 : QM σ υ1 := (F1.QM (by decide) (by decide)).trans ⟨F2.mono (by decide), k2 3 (by decide), k2 6 (by decide)⟩
  have hυ1 := h.m Q1
  -- behind the first loop
  have behind : ∀ τ : St, Fr [103] υ1 τ → (∀ l, l < nL N → (((τ.2 103 l).toInt : Int) : Rat) = fl_ N lv x l * (((υ1.2 96 (eA N l)).toInt : Int) : Rat)) → Ho ((f_X6_oneOf pl mi τ).bind (fun q12 => (f_X6_solves S q12).bind (fun q13 => f_X6_carries_62 S (fun (x43 : Int64) (σ44 : St) => some (x43.toInt32, σ44)) 1000 (9999 : Int64) (0 : Int32) q13))) (fun q => QM σ q.2 ∧ q.1 = iI (mnV N lv x y (nL N))) := by
    intro τ hF h103
    have Q2 : QM σ τ := Q1.trans (hF.QM (by decide) (by decide))
    refine ho_bind (y_oneOf pl mi hpm) (fun τ2 ht2 => ?_)
    obtain ⟨F3, p93⟩ := ht2
    have Q3 : QM σ τ2 := Q2.trans (F3.QM (by decide) (by decide))
    have hτ2 := h.m Q3
    refine ho_bind (y_solvesC (fd := fun i => pvI pl mi i) hN hτ2.MG hl hI (fun i hi => p93 i (by omega)) (fun i hi => by have := pvI_bd pl mi i; omega) hy) (fun υ2 hυ2 => ?_)
    obtain ⟨F4, k4, -, -, hJ2⟩ := hυ2
    have Q4 : QM σ υ2 := Q3.trans ⟨F4.mono (by decide), k4 3 (by decide), k4 6 (by decide)⟩
    have hυ2 := h.m Q4
    have g103 : υ2.2 103 = τ.2 103 := by rw [F4.l (i := 103) (by decide), F3.l (i := 103) (by decide)]
    have loop : ∀ (d l fuel : Nat) (z : Int64), l + d = nL N → d < fuel → z.toInt = mnV N lv x y l → 0 ≤ z.toInt → z.toInt ≤ 9999 → Ho (f_X6_carries_62 S (fun (x43 : Int64) (σ44 : St) => some (x43.toInt32, σ44)) fuel z (nI l) υ2) (fun q => QM σ q.2 ∧ q.1 = iI (mnV N lv x y (nL N))) := by
      intro d
      induction d with
      | zero =>
        intro l fuel z hd hf hz z0 z1
        obtain ⟨fuel, rfl⟩ : ∃ f, fuel = f + 1 := ⟨fuel - 1, by omega⟩
        have e : l = nL N := by omega
        subst e
        rw [f_X6_carries_62, show (1 : Int32).toNatClampNeg = 1 from rfl, hυ2.MG.2.1]
        exact ho_t (nI_ge' (Nat.le_refl _) (by omega)) (ho_some ⟨Q4, by rw [← hz]; exact l2i (by omega) z1⟩)
      | succ d ih =>
        intro l fuel z hd hf hz z0 z1
        obtain ⟨fuel, rfl⟩ : ∃ f, fuel = f + 1 := ⟨fuel - 1, by omega⟩
        have hlt : l < nL N := by omega
        obtain ⟨v1, v2, -, -, -, m1, m2⟩ := hN.2.2.2.2 l hlt
        rw [f_X6_carries_62, show (1 : Int32).toNatClampNeg = 1 from rfl, hυ2.MG.2.1]
        refine ho_f (nI_nge' (by omega) (by omega)) (ho_be (y_lineAt3 hN hυ2.MG hlt) (ho_be (y_lineAt0 hN hυ2.MG hlt) (ho_chk (ib_nI (by omega) (by omega)) (ho_nm ?_))))
        try dsimp only
        rw [nI31 (k := eA N l) (by omega), nI31 (k := l) (by omega)]
        refine ho_bind (y_flowOf hN hυ2.MG hl hI (fun j hj => (hJ2 j hj).1) hb2 hlt) (fun q hq => ?_)
        obtain ⟨q, q2⟩ := q
        obtain ⟨e1, e2⟩ := hq
        obtain rfl : q2 = υ2 := e1
        try dsimp only at e2
        refine ho_be (y_has S (by omega)) ?_
        try dsimp only
        obtain ⟨⟨a1, a2, -, -⟩, bw2⟩ := hJ2 _ v1
        have ebw := (hJ1 _ v1).2.one bw2
        have e4 : (iI (eM N l)).toInt64.toInt = eM N l := by rw [i2l_t, iI_t (by omega) (by omega)]
        have b1 : 0 < (q2.2 96 (eA N l)).toInt * eM N l := Int.mul_pos a1 (by omega)
        have b2 : (q2.2 96 (eA N l)).toInt * eM N l ≤ 4084101 * 999 := Int.mul_le_mul a2 m2 (by omega) (by omega)
        have e5 : ((iI (eM N l)).toInt64 * q2.2 96 (eA N l)).toInt = (q2.2 96 (eA N l)).toInt * eM N l := by rw [fb_mulL (by rw [e4, Int.mul_comm]; omega) (by rw [e4, Int.mul_comm]; omega), e4, Int.mul_comm]
        have h103' := h103 l hlt
        rw [ebw, ← g103] at h103'
        have hL := lb_of a1 a2 m1 m2 h103' e2 e5 (hb l hlt) (hb2 l hlt)
        generalize (iI (eM N l)).toInt64 * q2.2 96 (eA N l) = B at hL
        have ibl := ib_nI (k := l) (n := 10) (by omega) (by omega)
        have e0 : (0 : Int64).toInt = 0 := rfl
        have bB := hL.2.2.2.2.2.2
        have bp := hL.2.2.2.2.1
        have bq := hL.2.2.2.2.2.1
        have eB : (-B).toInt = -B.toInt := l_neg (by omega)
        have over : lv l = true → B.toInt < ((q2.2 103 l).toInt.natAbs : Int) → Ho (some ((-1 : Int32), q2)) (fun q => QM σ q.2 ∧ q.1 = iI (mnV N lv x y (nL N))) := fun hv ho => by
          refine ho_some ⟨Q4, ?_⟩
          have rz := (hL.rv1 ho).z
          have q1 := mnV_le (N := N) (lv := lv) x y (l + 1) d
          rw [show l + 1 + d = nL N by omega] at q1
          have q3 : mnV N lv x y (l + 1) ≤ -1 := by rw [mnV, if_pos hv, rz]; omega
          rw [show mnV N lv x y (nL N) = -1 by omega]
          rfl
        refine ho_jnP (fun s : St => s = q2 ∧ (lv l = true → ((q2.2 103 l).toInt.natAbs : Int) ≤ B.toInt)) (fun s hs => ?_) (fun j hj => ?_)
        · obtain ⟨rfl, hle⟩ := hs
          try dsimp only
          refine ho_jnP (fun r : Int64 × St => r.2 = s ∧ (lv l = true → RV (fl_ N lv x l) (fl_ N lv y l) ((eM N l : Int) : Rat) r.1.toInt ∧ 0 ≤ r.1.toInt)) (fun r hr => ?_) (fun j hj => ?_)
          · obtain ⟨r, r2⟩ := r
            obtain ⟨er, hr⟩ := hr
            obtain rfl : r2 = s := er
            try dsimp only at hr
            try dsimp only
            refine ho_be (y_has S (by omega)) ?_
            try dsimp only
            rw [hl l hlt]
            by_cases hv : lv l = true
            · rw [hv]
              obtain ⟨rv, r0⟩ := hr hv
              have em : mnV N lv x y (l + 1) = min (mnV N lv x y l) r.toInt := by rw [mnV, if_pos hv, rv.z]
              refine ho_f (by decide) (ho_if (fun c => ?_) (fun c => ?_))
              · have c' := l_le.mp c
                rw [nI_1]
                exact ih (l + 1) fuel z (by omega) (by omega) (by omega) (by omega) (by omega)
              · have c' : ¬ z.toInt ≤ r.toInt := fun w => c (l_le.mpr w)
                rw [nI_1]
                exact ih (l + 1) fuel r (by omega) (by omega) (by omega) (by omega) (by omega)
            · rw [bf_of hv]
              refine ho_t rfl ?_
              rw [nI_1]
              exact ih (l + 1) fuel z (by omega) (by omega) (by rw [mnV, if_neg hv]; exact hz) z0 z1
          · try dsimp only
            refine ho_if (fun c => ho_if (fun c2 => hj _ ⟨rfl, fun hv => ⟨?_, (show (0 : Int) ≤ (9999 : Int64).toInt by decide)⟩⟩) (fun c2 => ?_)) (fun c => ?_)
            · have := l_le.mp c
              have := l_le.mp c2
              exact hL.rv0 (hle hv) (by omega)
            · have : ¬ (0 : Int64).toInt ≤ q.toInt := fun w => c2 (l_le.mpr w)
              have eq : (-q).toInt = -q.toInt := l_neg (by omega)
              exact ho_chk ibl (ho_chk (decide_eq_true (fun w => by have := congrArg Int64.toInt w; omega)) (hj _ ⟨rfl, fun hv => ⟨(hL.rvN (hle hv) (by omega)).1, (hL.rvN (hle hv) (by omega)).2.1⟩⟩))
            · have : ¬ q.toInt ≤ (0 : Int64).toInt := fun w => c (l_le.mpr w)
              exact ho_chk ibl (ho_chk (decide_eq_true (fun w => by have := congrArg Int64.toInt w; omega)) (hj _ ⟨rfl, fun hv => ⟨(hL.rvP (hle hv) (by omega)).1, (hL.rvP (hle hv) (by omega)).2.1⟩⟩))
        · rw [hl l hlt]
          by_cases hv : lv l = true
          · rw [hv]
            refine ho_f (by decide) (ho_chk ibl (ho_if (fun c => over hv ?_) (fun c => ho_if (fun c2 => hj _ ⟨rfl, fun _ => ?_⟩) (fun c2 => over hv ?_))))
            · have := l_lt.mp c
              omega
            · have : ¬ B.toInt < (q2.2 103 l).toInt := fun w => c (l_lt.mpr w)
              have := l_le.mp c2
              omega
            · have : ¬ (-B).toInt ≤ (q2.2 103 l).toInt := fun w => c2 (l_le.mpr w)
              omega
          · rw [bf_of hv]
            exact ho_t rfl (hj _ ⟨rfl, fun w => absurd w hv⟩)
    exact loop (nL N) 0 1000 9999 (by omega) (by omega) rfl (by decide) (by decide)
  have loop : ∀ (d l fuel : Nat) (τ : St), l + d = nL N → d < fuel → Fr [103] υ1 τ → (∀ k, k < l → (((τ.2 103 k).toInt : Int) : Rat) = fl_ N lv x k * (((υ1.2 96 (eA N k)).toInt : Int) : Rat)) → Ho (f_X6_carries_12 pl mi S (fun (σ11 : St) => (f_X6_oneOf pl mi σ11).bind (fun q12 => (f_X6_solves S q12).bind (fun q13 => f_X6_carries_62 S (fun (x43 : Int64) (σ44 : St) => some (x43.toInt32, σ44)) 1000 (9999 : Int64) (0 : Int32) q13))) fuel (nI l) τ) (fun q => QM σ q.2 ∧ q.1 = iI (mnV N lv x y (nL N))) := by
    intro d
    induction d with
    | zero =>
      intro l fuel τ hd hf hF h103
      obtain ⟨fuel, rfl⟩ : ∃ f, fuel = f + 1 := ⟨fuel - 1, by omega⟩
      have e : l = nL N := by omega
      subst e
      rw [f_X6_carries_12, show (1 : Int32).toNatClampNeg = 1 from rfl, hF.i (i := 88) (by decide), hυ1.MG.2.1]
      exact ho_t (nI_ge' (Nat.le_refl _) (by omega)) (behind τ hF h103)
    | succ d ih =>
      intro l fuel τ hd hf hF h103
      obtain ⟨fuel, rfl⟩ : ∃ f, fuel = f + 1 := ⟨fuel - 1, by omega⟩
      have hlt : l < nL N := by omega
      have hG' : MG (τ.1 88) N := by rw [hF.i (i := 88) (by decide)]; exact hυ1.MG
      rw [f_X6_carries_12, show (1 : Int32).toNatClampNeg = 1 from rfl, hG'.2.1, nI31 (k := l) (by omega)]
      refine ho_f (nI_nge' (by omega) (by omega)) (ho_bind (y_flowOf hN hG' hl hI (fun j hj => ((hJ1 j hj).1).fr hF (by decide) (by decide)) hb hlt) (fun q hq => ?_))
      obtain ⟨q, q2⟩ := q
      obtain ⟨e1, e2⟩ := hq
      obtain rfl : q2 = τ := e1
      try dsimp only at e2
      refine ho_chk (ib_nI (by omega) (by omega)) (ho_nm ?_)
      rw [nI_1]
      refine ih (l + 1) fuel _ (by omega) (by omega) (hF.sL (by decide)) (fun k hk => ?_)
      by_cases e : k = l
      · rw [e, sL_at, e2, hF.l (i := 96) (by decide)]
      · rw [sL_off _ _ _ _ e]; exact h103 k (by omega)
  exact loop (nL N) 0 1000 υ1 (by omega) (by omega) Fr.refl (fun k hk => absurd hk (Nat.not_lt_zero k))
/-- the probe's solution -/
noncomputable def yP (N : Net) (pl mi : Int32) (lv : Nat → Bool) : Nat → Rat := Classical.epsilon (fun x => SolN N lv (slP N lv) (pQ pl mi) x)
theorem yP_is (hN : NV N) (pl mi : Int32) (lv : Nat → Bool) : SolN N lv (slP N lv) (pQ pl mi) (yP N pl mi lv) := by
  obtain ⟨x, -, hx⟩ := Sol.ex (slP_is hN lv) hN.ab hN.s0 (pQ pl mi)
  exact Classical.epsilon_spec (p := fun x => SolN N lv (slP N lv) (pQ pl mi) x) ⟨x, hx⟩
noncomputable def tV (N : Net) (pl mi : Int32) (lv : Nat → Bool) : Int := mnV N lv (xP N lv) (yP N pl mi lv) (nL N)
noncomputable def tS (N : Net) (pl mi : Int32) : Nat → Int
  | 0 => tV N pl mi (eO N)
  | k + 1 => if eO N k = true ∧ brN N k = false then min (tS N pl mi k) (tV N pl mi (lvW N k)) else tS N pl mi k
theorem tS_le (pl mi : Int32) (l : Nat) : ∀ d, tS N pl mi (l + d) ≤ tS N pl mi l
  | 0 => Int.le_refl _
  | d + 1 => by
    have := tS_le pl mi l d
    rw [← Nat.add_assoc, tS]
    split <;> omega
theorem iI_lt {a b : Int} (ha : -1 ≤ a ∧ a ≤ 9999) (hb : -1 ≤ b ∧ b ≤ 9999) : iI a < iI b ↔ a < b := by
  rw [i_lt, iI_t (by omega) (by omega), iI_t (by omega) (by omega)]
theorem iI_le {a b : Int} (ha : -1 ≤ a ∧ a ≤ 9999) (hb : -1 ≤ b ∧ b ≤ 9999) : iI a ≤ iI b ↔ a ≤ b := by
  rw [i_le, iI_t (by omega) (by omega), iI_t (by omega) (by omega)]
theorem iI_m1 {a : Int} (ha : -1 ≤ a ∧ a ≤ 9999) : iI a = (-1 : Int32) ↔ a = -1 := by
  constructor
  · intro h
    have := congrArg Int32.toInt h
    rw [iI_t (by omega) (by omega)] at this
    exact this
  · intro h; rw [h]; rfl
theorem x_t84 (h : IN N σ 0 0 0) (pl mi : Int32) : ∀ (d k fuel : Nat) (τ : St), k + d = nL N → d < fuel → Fr CS σ τ → (-1 ≤ tS N pl mi k ∧ tS N pl mi k ≤ 9999) → (∀ j, j < k → eO N j = true → brN N j = false → -1 ≤ tV N pl mi (lvW N j) ∧ tV N pl mi (lvW N j) ≤ 9999) →
    Ho (f_X5_transfer_84 pl mi (fun (x29 : Int32) (σ30 : St) => some (x29, σ30)) fuel (iI (tS N pl mi k)) (nI k) τ) (fun q => Fr CS σ q.2 ∧ q.1 = iI (tS N pl mi (nL N)) ∧ (-1 ≤ tS N pl mi (nL N) ∧ tS N pl mi (nL N) ≤ 9999) ∧ ∀ j, j < nL N → eO N j = true → brN N j = false → -1 ≤ tV N pl mi (lvW N j) ∧ tV N pl mi (lvW N j) ≤ 9999) := by
  have hN := h.NV
  have hm := hN.2.2.1
  intro d
  induction d with
  | zero =>
    intro k fuel τ hd hf hF hb hj
    obtain ⟨fuel, rfl⟩ : ∃ f, fuel = f + 1 := ⟨fuel - 1, by omega⟩
    have e : k = nL N := by omega
    subst e
    rw [f_X5_transfer_84, (h.q hF).CG.2.1]
    exact ho_t (nI_ge' (Nat.le_refl _) (by omega)) (ho_some ⟨hF, rfl, hb, hj⟩)
  | succ d ih =>
    intro k fuel τ hd hf hF hb hj
    obtain ⟨fuel, rfl⟩ : ∃ f, fuel = f + 1 := ⟨fuel - 1, by omega⟩
    have hk : k < nL N := by omega
    have hτ := h.q hF
    have skip : ¬ (eO N k = true ∧ brN N k = false) → ∀ υ : St, Fr CS σ υ → Ho (f_X5_transfer_84 pl mi (fun (x29 : Int32) (σ30 : St) => some (x29, σ30)) fuel (iI (tS N pl mi k)) (nI k + 1) υ) (fun q => Fr CS σ q.2 ∧ q.1 = iI (tS N pl mi (nL N)) ∧ (-1 ≤ tS N pl mi (nL N) ∧ tS N pl mi (nL N) ≤ 9999) ∧ ∀ j, j < nL N → eO N j = true → brN N j = false → -1 ≤ tV N pl mi (lvW N j) ∧ tV N pl mi (lvW N j) ≤ 9999) := by
      intro hc υ hυ
      have e : tS N pl mi (k + 1) = tS N pl mi k := by rw [tS, if_neg hc]
      rw [nI_1, ← e]
      refine ih (k + 1) fuel υ (by omega) (by omega) hυ (by omega) (fun j hj2 a b => ?_)
      by_cases w : j = k
      · subst w; exact absurd ⟨a, b⟩ hc
      · exact hj j (by omega) a b
    rw [f_X5_transfer_84, hτ.CG.2.1, nI31 (k := k) (by omega), hτ.e30 hk]
    refine ho_f (nI_nge' (by omega) (by omega)) (ho_chk (ib_nI (by omega) (by omega)) ?_)
    by_cases hO : eO N k = true
    · refine ho_f (by rw [hO]; decide) (ho_bind (x_isBridge hτ hk (slP_is hN (lvW N k))) (fun w hw => ?_))
      obtain ⟨F1, w1⟩ := hw
      have hτ1 := hτ.q F1
      rw [w1]
      by_cases c : brN N k = true
      · have c' := c
        unfold brN at c'
        rw [c']
        exact ho_f (by decide) (skip (fun z => by rw [c] at z; cases z.2) w.2 (hF.trans F1))
      · have c' := bf_of c
        have c2 := c'
        unfold brN at c2
        rw [c2]
        refine ho_t rfl (ho_bind (x_takeS hN hτ1.CG (nI k) (-1) (lv_wo hN hk) (slP_is hN (lvW N k))) (fun υ hυ => ?_))
        obtain ⟨F2, h7, h8⟩ := hυ
        have F2' : Fr CS w.2 υ := F2.mono (by decide)
        refine ho_bind (x_room (hτ1.q F2') (slP_is hN _) h7 h8 (xP_is hN _) (yP_is hN pl mi _)) (fun r hr => ho_nm ?_)
        obtain ⟨F3, r1, r2, r3⟩ := hr
        have hv : -1 ≤ tV N pl mi (lvW N k) ∧ tV N pl mi (lvW N k) ≤ 9999 := ⟨r2, r3⟩
        have r1' : r.1 = iI (tV N pl mi (lvW N k)) := r1
        rw [r1', nI_1]
        have em : tS N pl mi (k + 1) = min (tS N pl mi k) (tV N pl mi (lvW N k)) := by rw [tS, if_pos ⟨hO, c'⟩]
        have e9 : (if iI (tV N pl mi (lvW N k)) < iI (tS N pl mi k) then iI (tV N pl mi (lvW N k)) else iI (tS N pl mi k)) = iI (tS N pl mi (k + 1)) := by
          by_cases z : tV N pl mi (lvW N k) < tS N pl mi k
          · rw [if_pos ((iI_lt hv hb).mpr z), em, show min (tS N pl mi k) (tV N pl mi (lvW N k)) = tV N pl mi (lvW N k) by omega]
          · rw [if_neg (fun q => z ((iI_lt hv hb).mp q)), em, show min (tS N pl mi k) (tV N pl mi (lvW N k)) = tS N pl mi k by omega]
        rw [e9]
        refine ih (k + 1) fuel r.2 (by omega) (by omega) (((hF.trans F1).trans F2').trans F3) (by omega) (fun j hj2 a b => ?_)
        by_cases w : j = k
        · subst w; exact hv
        · exact hj j (by omega) a b
    · exact ho_t (by rw [bf_of hO]; rfl) (skip (fun z => hO z.1) τ hF)
theorem y_t83 (h : IN N σ 0 0 0) {pl mi : Int32} (hpm : pl ≠ mi) (hge : -1 ≤ tS N pl mi (nL N) ∧ tS N pl mi (nL N) ≤ 9999) (hv : ∀ j, j < nL N → eO N j = true → brN N j = false → -1 ≤ tV N pl mi (lvW N j) ∧ tV N pl mi (lvW N j) ≤ 9999) : ∀ (d k fuel : Nat) (τ : St), k + d = nL N → d < fuel → QM σ τ → (-1 ≤ tS N pl mi k ∧ tS N pl mi k ≤ 9999) →
    Ho (f_X6_transfer_83 pl mi (1 : Int32) (fun (x33 : Int32) (σ34 : St) => some (x33, σ34)) fuel (iI (tS N pl mi k)) (nI k) τ) (fun q => QM σ q.2 ∧ q.1 = iI (tS N pl mi (nL N))) := by
  have hN := h.NV
  have hm := hN.2.2.1
  intro d
  induction d with
  | zero =>
    intro k fuel τ hd hf hF hb
    obtain ⟨fuel, rfl⟩ : ∃ f, fuel = f + 1 := ⟨fuel - 1, by omega⟩
    have e : k = nL N := by omega
    subst e
    rw [f_X6_transfer_83, show (1 : Int32).toNatClampNeg = 1 from rfl, (h.m hF).MG.2.1]
    exact ho_t (nI_ge' (Nat.le_refl _) (by omega)) (ho_some ⟨hF, rfl⟩)
  | succ d ih =>
    intro k fuel τ hd hf hF hb
    obtain ⟨fuel, rfl⟩ : ∃ f, fuel = f + 1 := ⟨fuel - 1, by omega⟩
    have hk : k < nL N := by omega
    have hτ := h.m hF
    have skip : ¬ (eO N k = true ∧ brN N k = false) → ∀ υ : St, QM σ υ → Ho (f_X6_transfer_83 pl mi (1 : Int32) (fun (x33 : Int32) (σ34 : St) => some (x33, σ34)) fuel (iI (tS N pl mi k)) (nI k + 1) υ) (fun q => QM σ q.2 ∧ q.1 = iI (tS N pl mi (nL N))) := by
      intro hc υ hυ
      have e : tS N pl mi (k + 1) = tS N pl mi k := by rw [tS, if_neg hc]
      rw [nI_1, ← e]
      exact ih (k + 1) fuel υ (by omega) (by omega) hυ (by omega)
    rw [f_X6_transfer_83, show (1 : Int32).toNatClampNeg = 1 from rfl, hτ.MG.2.1]
    refine ho_f (nI_nge' (by omega) (by omega)) (ho_t rfl (ho_if (fun c => ho_some ⟨hF, ?_⟩) (fun c => ho_be (y_isIn hN hτ.MG hk) ?_)))
    · have c' := (iI_m1 hb).mp c
      have := tS_le (N := N) pl mi k (d + 1)
      rw [hd] at this
      show iI (tS N pl mi k) = _
      rw [show tS N pl mi (nL N) = tS N pl mi k by omega]
    · try dsimp only
      by_cases hO : eO N k = true
      · refine ho_f (by rw [hO]; decide) (ho_bind (y_isBridge hτ hk (slP_is hN (lvW N k))) (fun w hw => ?_))
        obtain ⟨F1, w1, -⟩ := hw
        have hτ1 := hτ.m F1
        rw [w1]
        by_cases cb : brN N k = true
        · have c' := cb
          unfold brN at c'
          rw [c']
          exact ho_f (by decide) (skip (fun z => by rw [cb] at z; cases z.2) w.2 (hF.trans F1))
        · have c' := bf_of cb
          have c2 := c'
          unfold brN at c2
          rw [c2]
          refine ho_t rfl (ho_bind (y_inSet hN hτ1.MG) (fun s hs => ?_))
          obtain ⟨s1, s2⟩ := hs
          try dsimp only
          rw [s1]
          have hvk := hv k hk hO c'
          refine ho_bind (y_carries hτ1 (slP_is hN (lvW N k)) (s2.wo hN hk) hpm (xP_is hN _) (yP_is hN pl mi _) hvk.1) (fun r hr => ?_)
          obtain ⟨F3, r1⟩ := hr
          have r1' : r.1 = iI (tV N pl mi (lvW N k)) := r1
          have em : tS N pl mi (k + 1) = min (tS N pl mi k) (tV N pl mi (lvW N k)) := by rw [tS, if_pos ⟨hO, c'⟩]
          rw [r1', nI_1]
          refine ho_if (fun z => ?_) (fun z => ?_)
          · have z' := (iI_le hb hvk).mp z
            rw [show tS N pl mi k = tS N pl mi (k + 1) by omega]
            exact ih (k + 1) fuel r.2 (by omega) (by omega) ((hF.trans F1).trans F3) (by omega)
          · have z' : ¬ tS N pl mi k ≤ tV N pl mi (lvW N k) := fun q => z ((iI_le hb hvk).mpr q)
            rw [show tV N pl mi (lvW N k) = tS N pl mi (k + 1) by omega]
            exact ih (k + 1) fuel r.2 (by omega) (by omega) ((hF.trans F1).trans F3) (by omega)
      · exact ho_t (by rw [bf_of hO]; rfl) (skip (fun z => hO z.1) τ hF)
end Tr
