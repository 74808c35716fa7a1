/-! fed, shift (wip/whole/gen/ops61.py) -/
def s32 (f : Nat → Int32) : Nat → Int32
  | 0 => 0
  | n + 1 => s32 f n + f n
theorem s32_ex (f : Nat → Int32) (i : Nat) : ∀ n, s32 f n = s32 (fun j => if j = i then 0 else f j) n + (if i < n then f i else 0)
  | 0 => by rw [if_neg (Nat.not_lt_zero i)]; rfl
  | n + 1 => by
    rw [s32, s32, s32_ex f i n]
    by_cases e : n = i
    · subst e
      rw [if_pos rfl, if_neg (Nat.lt_irrefl n), if_pos (Nat.lt_succ_self n)]
      try grind
    · rw [if_neg e]
      by_cases c : i < n
      · rw [if_pos c, if_pos (show i < n + 1 by omega)]; grind
      · rw [if_neg c, if_neg (show ¬ i < n + 1 by omega)]; grind
section Op6
variable {N : Net} {σ : St} {sl : Nat → Nat}
def owS (N : Net) (sl : Nat → Nat) (r : Nat) : Nat → Int32 := fun j => if sl j = r then iI (eQ N j) else 0
theorem x_ownSum (h : IN N σ 0 0 0) (hs : ∀ i, i < nB N → sl i < nB N) (h8 : ∀ i, i < nB N → σ.1 8 i = nI (sl i)) {r : Nat} (hr : r < nB N) : f_X4_ownSum (nI r) σ = some (s32 (owS N sl r) (nB N), σ) := by
  have hN := h.NV
  have hn := hN.2.1
  have loop : ∀ (d j fuel : Nat), j + d = nB N → d < fuel → Ho (f_X4_ownSum_4 (nI r) (fun (x10 : Int32) (σ11 : St) => some (x10, σ11)) fuel (s32 (owS N sl r) j) (nI j) σ) (fun q => q = (s32 (owS N sl r) (nB N), σ)) := by
    intro d
    induction d with
    | zero =>
      intro j fuel hd hf
      obtain ⟨fuel, rfl⟩ : ∃ f, fuel = f + 1 := ⟨fuel - 1, by omega⟩
      have e : j = nB N := by omega
      subst e
      rw [f_X4_ownSum_4, h.CG.1]
      exact ho_t (nI_ge' (Nat.le_refl _) (by omega)) (ho_some rfl)
    | succ d ih =>
      intro j fuel hd hf
      obtain ⟨fuel, rfl⟩ : ∃ f, fuel = f + 1 := ⟨fuel - 1, by omega⟩
      have hj : j < nB N := by omega
      have sj := hs j hj
      rw [f_X4_ownSum_4, h.CG.1, nI31 (k := j) (by omega), h8 j hj, h.e25 (i := j) (by omega)]
      refine ho_f (nI_nge' (by omega) (by omega)) (ho_chk (ib_nI (by omega) (by omega)) (ho_if (fun c => ho_nm ?_) (fun c => ?_)))
      · have c' := nI_inj (by omega) (by omega) c
        have e : s32 (owS N sl r) j + iI (eQ N j) = s32 (owS N sl r) (j + 1) := by rw [s32]; unfold owS; rw [if_pos c']
        rw [e, nI_1]
        exact ih (j + 1) fuel (by omega) (by omega)
      · have c' : ¬ sl j = r := fun e => c (by rw [e])
        have e : s32 (owS N sl r) j = s32 (owS N sl r) (j + 1) := by rw [s32]; unfold owS; rw [if_neg c']; grind
        rw [e, nI_1]
        exact ih (j + 1) fuel (by omega) (by omega)
  unfold f_X4_ownSum
  obtain ⟨a, ha, rfl⟩ := loop (nB N) 0 1000 (by omega) (by omega)
  exact ha
theorem ix2 (i : Nat) : ((2 : Int32) + nI i) = nI (2 + i) := nI_add 2 i
theorem y_fed30 {x y z : Int32} (h : IN N σ x y z) (hs : ∀ i, i < nB N → sl i < nB N) (h94 : ∀ i, i < nB N → σ.1 94 i = nI (sl i)) {i : Nat} (hi : i < nB N) {K : Int32 → St → Option (Int32 × St)} {Q : Int32 × St → Prop} (hK : Ho (K (s32 (fun j => if j = i then 0 else owS N sl i j) (nB N)) σ) Q) :
    ∀ (d j fuel : Nat), j + d = nB N → d < fuel → Ho (f_X6_fed_30 (nI i) K fuel (s32 (fun j => if j = i then 0 else owS N sl i j) j) (nI j) σ) Q := by
  have hN := h.NV
  have hn := hN.2.1
  intro d
  induction d with
  | zero =>
    intro j fuel hd hf
    obtain ⟨fuel, rfl⟩ : ∃ f, fuel = f + 1 := ⟨fuel - 1, by omega⟩
    have e : j = nB N := by omega
    subst e
    rw [f_X6_fed_30, show (0 : Int32).toNatClampNeg = 0 from rfl, h.MG.1]
    exact ho_t (nI_ge' (Nat.le_refl _) (by omega)) hK
  | succ d ih =>
    intro j fuel hd hf
    obtain ⟨fuel, rfl⟩ : ∃ f, fuel = f + 1 := ⟨fuel - 1, by omega⟩
    have hj : j < nB N := by omega
    have sj := hs j hj
    have nx : ∀ v : Int32, v = (if j = i then 0 else owS N sl i j) → Ho (f_X6_fed_30 (nI i) K fuel (s32 (fun j => if j = i then 0 else owS N sl i j) j + v) (nI j + 1) σ) Q := fun v hv => by
      rw [hv, nI_1]
      exact ih (j + 1) fuel (by omega) (by omega)
    rw [f_X6_fed_30, show (0 : Int32).toNatClampNeg = 0 from rfl, h.MG.1, ix2, nI31 (k := 2 + j) (by omega), nI31 (k := j) (by omega), h94 j hj, h.MG.2.2.1 j (by omega)]
    refine ho_f (nI_nge' (by omega) (by omega)) (ho_if (fun c => ho_nm (nx _ ?_)) (fun c => ho_chk (ib_nI (by omega) (by omega)) (ho_if (fun c2 => ho_chk (ib_nI (by omega) (by omega)) (ho_nm (nx _ ?_))) (fun c2 => ho_nm (nx _ ?_)))))
    · rw [if_pos (nI_inj (by omega) (by omega) c)]
    · rw [if_neg (fun e => c (by rw [e]))]; unfold owS; rw [if_pos (nI_inj (by omega) (by omega) c2)]
    · rw [if_neg (fun e => c (by rw [e]))]; unfold owS; rw [if_neg (fun e => c2 (by rw [e]))]
theorem op_fed (h : IN N σ 0 0 0) (a : Int32) : OE N (f_X5_fed a σ) (f_X6_fed a) := by
  unfold OE f_X5_fed
  refine ho_be (x_hasBus h a) ?_
  try dsimp only
  by_cases g1 : inR a 0 ((nB N : Int) - 1) = true
  · rw [g1]
    refine ho_f (by decide) ?_
    obtain ⟨i, hi, rfl⟩ := inR_nI g1
    have hN := h.NV
    have hn := hN.2.1
    obtain ⟨sl, hI⟩ := Isl.ex (nB N) (eA N) (eB N) (eO N) (nL N) hN.ab
    have si := hI.lt hi
    have hs : ∀ i, i < nB N → sl i < nB N := fun i hi => hI.lt hi
    refine ho_bind (x_takeS hN h.CG (-1) (-1) (lv_all hN) hI) (fun τ ht1 => ?_)
    obtain ⟨F1, h7, h8⟩ := ht1
    have hτ := h.q (F1.mono (by decide : ∀ i, i ∈ [7, 8] → i ∈ CS))
    have model : ∀ v : Int32, v = (if sl i = i then -(s32 (fun j => if j = i then 0 else owS N sl i j) (nB N)) else iI (eQ N i)) → Ho (f_X6_fed (nI i) τ) (fun r => r.1 = v ∧ ∃ N', IN N' r.2 0 0 0) := by
      intro v hv
      unfold f_X6_fed
      refine ho_be (y_isBus hτ _) ?_
      try dsimp only
      rw [g1]
      refine ho_f (by decide) ?_
      refine ho_bind (y_inSet hN hτ.MG) (fun s hs' => ?_)
      obtain ⟨s1, s2⟩ := hs'
      rw [s1]
      refine ho_bind (y_partsS hN hτ.MG (s2.all hN) hI) (fun υ hυ => ?_)
      obtain ⟨F4, h94⟩ := hυ
      have hυ2 := hτ.m (F4.QM (by decide) (by decide))
      refine y_fed30 hυ2 hs h94 hi ?_ (nB N) 0 1000 (by omega) (by omega)
      try dsimp only
      rw [ix2, nI31 (k := 2 + i) (by omega), nI31 (k := i) (by omega), h94 i hi, hυ2.MG.2.2.1 i (by omega)]
      refine ho_chk (ib_nI (by omega) (by omega)) (ho_if (fun c => ho_some ⟨?_, N, hυ2⟩) (fun c => ho_chk (ib_nI (by omega) (by omega)) (ho_some ⟨?_, N, hυ2⟩)))
      · rw [hv, if_pos (nI_inj (by omega) (by omega) c)]
      · rw [hv, if_neg (fun e => c (by rw [e]))]
    rw [nI31 (by omega), h8 i hi, hτ.e25 (i := i) (by omega)]
    refine ho_chk (ib_nI (by omega) (by omega)) (ho_if (fun c => ?_) (fun c => ?_))
    · have c' := nI_inj (by omega) (by omega) c
      refine ho_be (x_ownSum hτ hs h8 hi) (ho_some (model _ ?_))
      try dsimp only
      rw [if_pos c', s32_ex (owS N sl i) i, if_pos hi]
      have : owS N sl i i = iI (eQ N i) := by unfold owS; rw [if_pos c']
      rw [this]
      grind
    · have c' : ¬ sl i = i := fun e => c (by rw [e])
      refine ho_some (model _ ?_)
      rw [if_neg c']
  · have g1' : inR a 0 ((nB N : Int) - 1) = false := by cases w : inR a 0 ((nB N : Int) - 1); rfl; exact absurd w g1
    rw [g1']
    refine ho_t rfl (ho_bind (x_bad h) (fun q hq => ho_some ?_))
    unfold f_X6_fed
    refine ho_be (y_isBus hq.2 a) ?_
    try dsimp only
    rw [g1']
    exact ho_t rfl (ho_bind (y_bad hq.2) (fun r hr => ho_some ⟨by first | rfl | rw [hr.1, hq.1], N, hr.2⟩))
theorem y_shift68 {x y z : Int32} (h : IN N σ x y z) (hs : ∀ i, i < nB N → sl i < nB N) (h94 : ∀ i, i < nB N → σ.1 94 i = nI (sl i)) {p q : Nat} (hp : p < nB N) (hq : q < nB N) {K : Int32 → St → Option (Int32 × St)} {Q : Int32 × St → Prop} (hK : Ho (K (s32 (owS N sl (max p q)) (nB N)) σ) Q) :
    ∀ (d j fuel : Nat), j + d = nB N → d < fuel → Ho (f_X6_shift_68 (nI p) (nI q) K fuel (s32 (owS N sl (max p q)) j) (nI j) σ) Q := by
  have hN := h.NV
  have hn := hN.2.1
  intro d
  induction d with
  | zero =>
    intro j fuel hd hf
    obtain ⟨fuel, rfl⟩ : ∃ f, fuel = f + 1 := ⟨fuel - 1, by omega⟩
    have e : j = nB N := by omega
    subst e
    rw [f_X6_shift_68, show (0 : Int32).toNatClampNeg = 0 from rfl, h.MG.1]
    exact ho_t (nI_ge' (Nat.le_refl _) (by omega)) hK
  | succ d ih =>
    intro j fuel hd hf
    obtain ⟨fuel, rfl⟩ : ∃ f, fuel = f + 1 := ⟨fuel - 1, by omega⟩
    have hj : j < nB N := by omega
    have sj := hs j hj
    have nx : ∀ v : Int32, v = owS N sl (max p q) j → Ho (f_X6_shift_68 (nI p) (nI q) K fuel (s32 (owS N sl (max p q)) j + v) (nI j + 1) σ) Q := fun v hv => by
      rw [hv, nI_1]
      exact ih (j + 1) fuel (by omega) (by omega)
    have tail : ∀ m : Nat, m = max p q → Ho (if nI (sl j) = nI m then chk (ib (nI (2 + j)) 58) (nm (s32 (owS N sl (max p q)) j + iI (eQ N j)) (fun x23 : Int32 => f_X6_shift_68 (nI p) (nI q) K fuel x23 (nI j + 1) σ)) else nm (s32 (owS N sl (max p q)) j + (0 : Int32)) (fun x21 : Int32 => f_X6_shift_68 (nI p) (nI q) K fuel x21 (nI j + 1) σ)) Q := by
      intro m hm
      refine ho_if (fun c2 => ho_chk (ib_nI (by omega) (by omega)) (ho_nm (nx _ ?_))) (fun c2 => ho_nm (nx _ ?_))
      · unfold owS; rw [if_pos (by rw [← hm]; exact nI_inj (by omega) (by omega) c2)]
      · unfold owS; rw [if_neg (fun e => c2 (by rw [e, hm]))]
    rw [f_X6_shift_68, show (0 : Int32).toNatClampNeg = 0 from rfl, h.MG.1, nI31 (k := j) (by omega), h94 j hj]
    refine ho_f (nI_nge' (by omega) (by omega)) (ho_chk (ib_nI (by omega) (by omega)) (ho_jn ?_))
    try dsimp only
    rw [ix2, nI31 (k := 2 + j) (by omega), h.MG.2.2.1 j (by omega)]
    refine ho_if (fun c => tail q ?_) (fun c => tail p ?_)
    · have : p ≤ q := by
        rcases Nat.lt_or_ge q p with w | w
        · exact absurd c (nI_nge' w (by omega))
        · exact w
      omega
    · have : q < p := by
        rcases Nat.lt_or_ge q p with w | w
        · exact w
        · exact absurd (nI_ge' w (by omega)) c
      omega
theorem op_shift (h : IN N σ 0 0 0) (a : Int32) : OE N (f_X5_shift a σ) (f_X6_shift a) := by
  unfold OE f_X5_shift
  refine ho_be (x_hasLine h a) ?_
  try dsimp only
  by_cases g1 : inR a 0 ((nL N : Int) - 1) = true
  · rw [g1]
    refine ho_f (by decide) ?_
    obtain ⟨k, hk, rfl⟩ := inR_nI g1
    have hN := h.NV
    have hm := hN.2.2.1
    have hn := hN.2.1
    obtain ⟨v1, v2, -⟩ := hN.2.2.2.2 k hk
    obtain ⟨sl, hI⟩ := Isl.ex (nB N) (eA N) (eB N) (lvW N k) (nL N) hN.ab
    have sa := hI.lt v1
    have sb := hI.lt v2
    have hs : ∀ i, i < nB N → sl i < nB N := fun i hi => hI.lt hi
    refine ho_bind (x_isBridge h hk hI) (fun w hw => ?_)
    obtain ⟨F0, w1⟩ := hw
    have h0 := h.q F0
    rw [w1]
    by_cases br : (eO N k && !decide (sl (eA N k) = sl (eB N k))) = true
    · have hO : eO N k = true := by rw [Bool.and_eq_true] at br; exact br.1
      rw [br]
      refine ho_f (by decide) (ho_bind (x_takeS hN h0.CG _ (-1) (lv_wo hN hk) hI) (fun τ ht1 => ?_))
      obtain ⟨F1, h7, h8⟩ := ht1
      have hτ := h0.q (F1.mono (by decide : ∀ i, i ∈ [7, 8] → i ∈ CS))
      rw [nI31 (k := k) (by omega), hτ.e26 hk, hτ.e27 hk, nI31 (k := eA N k) (by omega), nI31 (k := eB N k) (by omega), h8 _ v1, h8 _ v2]
      have e : (if nI (sl (eA N k)) < nI (sl (eB N k)) then nI (sl (eB N k)) else nI (sl (eA N k))) = nI (max (sl (eA N k)) (sl (eB N k))) := by
        have i1 := nI_t (k := sl (eA N k)) (by omega)
        have i2 := nI_t (k := sl (eB N k)) (by omega)
        by_cases c : nI (sl (eA N k)) < nI (sl (eB N k))
        · have := i_lt.mp c
          rw [if_pos c, show max (sl (eA N k)) (sl (eB N k)) = sl (eB N k) by omega]
        · have : ¬ (nI (sl (eA N k))).toInt < (nI (sl (eB N k))).toInt := fun w => c (i_lt.mpr w)
          rw [if_neg c, show max (sl (eA N k)) (sl (eB N k)) = sl (eA N k) by omega]
      rw [e]
      refine ho_chk (ib_nI (by omega) (by omega)) (ho_chk (ib_nI (by omega) (by omega)) (ho_chk (ib_nI (by omega) (by omega)) (ho_be (x_ownSum hτ hs h8 (by omega)) (ho_some ?_))))
      unfold f_X6_shift
      refine ho_be (y_isLine hτ _) ?_
      try dsimp only
      rw [g1]
      refine ho_f (by decide) ?_
      refine ho_bind (y_isBridge hτ hk hI) (fun t ht => ?_)
      obtain ⟨Qt, t1, t2⟩ := ht
      have h94 := t2 hO
      have hτ2 := hτ.m Qt
      rw [t1, br]
      refine ho_f (by decide) (ho_be (y_lineAt0 hN hτ2.MG hk) (ho_chk (ib_nI (by omega) (by omega)) (ho_nm (ho_be (y_lineAt1 hN hτ2.MG hk) (ho_chk (ib_nI (by omega) (by omega)) (ho_nm ?_))))))
      try dsimp only
      rw [nI31 (k := eA N k) (by omega), nI31 (k := eB N k) (by omega), h94 _ v1, h94 _ v2]
      exact y_shift68 hτ2 hs h94 sa sb (ho_some ⟨rfl, N, hτ2⟩) (nB N) 0 1000 (by omega) (by omega)
    · have br' : (eO N k && !decide (sl (eA N k) = sl (eB N k))) = false := by cases w : (eO N k && !decide (sl (eA N k) = sl (eB N k))); rfl; exact absurd w br
      rw [br']
      refine ho_t rfl (ho_bind (x_no h0) (fun q hq => ho_some ?_))
      unfold f_X6_shift
      refine ho_be (y_isLine hq.2 _) ?_
      try dsimp only
      rw [g1]
      refine ho_f (by decide) ?_
      refine ho_bind (y_isBridge hq.2 hk hI) (fun t ht => ?_)
      obtain ⟨Qt, t1, -⟩ := ht
      rw [t1, br']
      exact ho_t rfl (ho_bind (y_no (hq.2.m Qt)) (fun r hr => ho_some ⟨by first | rfl | rw [hr.1, hq.1], N, hr.2⟩))
  · have g1' : inR a 0 ((nL N : Int) - 1) = false := by cases w : inR a 0 ((nL N : Int) - 1); rfl; exact absurd w g1
    rw [g1']
    refine ho_t rfl (ho_bind (x_bad h) (fun q hq => ho_some ?_))
    unfold f_X6_shift
    refine ho_be (y_isLine hq.2 a) ?_
    try dsimp only
    rw [g1']
    exact ho_t rfl (ho_bind (y_bad hq.2) (fun r hr => ho_some ⟨by first | rfl | rw [hr.1, hq.1], N, hr.2⟩))
end Op6
