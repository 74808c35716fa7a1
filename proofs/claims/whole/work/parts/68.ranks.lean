/-! the ranking: all outages, on both sides -/
section Ra
variable {N : Net} {σ : St}
/-- the live lines but two -/
def lvP (N : Net) (j k : Nat) (l : Nat) : Bool := eO N l && (!decide (l = j) && !decide (l = k))
noncomputable def slP (N : Net) (lv : Nat → Bool) : Nat → Nat := Classical.epsilon (fun sl => IslN N lv sl)
noncomputable def xP (N : Net) (lv : Nat → Bool) : Nat → Rat := Classical.epsilon (fun x => SolN N lv (slP N lv) (fQ N) x)
theorem slP_is (hN : NV N) (lv : Nat → Bool) : IslN N lv (slP N lv) := Classical.epsilon_spec (p := fun sl => IslN N lv sl) (Isl.ex (nB N) (eA N) (eB N) lv (nL N) hN.ab)
theorem xP_is (hN : NV N) (lv : Nat → Bool) : SolN N lv (slP N lv) (fQ N) (xP N lv) := by
  obtain ⟨x, -, hx⟩ := Sol.ex (slP_is hN lv) hN.ab hN.s0 (fQ N)
  exact Classical.epsilon_spec (p := fun x => SolN N lv (slP N lv) (fQ N) x) ⟨x, hx⟩
/-- how heavy the heaviest line is -/
noncomputable def oP (N : Net) (lv : Nat → Bool) : Option Nat := jw (rho N lv (xP N lv)) lv (nL N)
noncomputable def cP (N : Net) (lv : Nat → Bool) : Nat := jc (rho N lv (xP N lv)) lv (nL N)
noncomputable def rP (N : Net) (lv : Nat → Bool) : Rat := wr (rho N lv (xP N lv)) (oP N lv)
theorem nI_nm {l : Nat} (h : l < 1000) : ¬ nI l = (-1 : Int32) := fun w => by
  have q := congrArg Int32.toInt w
  rw [nI_t h] at q
  have : (-1 : Int32).toInt = -1 := rfl
  omega
theorem nI_dec {a b : Nat} (ha : a < 1000) (hb : b < 1000) : decide (nI a = nI b) = decide (a = b) := decide_eq_decide.mpr ⟨fun e => nI_inj ha hb e, fun e => by rw [e]⟩
theorem lv_two (hN : NV N) {two : Bool} {j k : Nat} (hj : j < nL N) (hk : k < nL N) (ht : two = false → k = j) : ∀ l, l < nL N → lvX N (nI j) (sc two k) l = lvP N j k l := fun l hl => by
  have hm := hN.2.2.1
  unfold lvX lvP sc
  rw [nI_dec (by omega) (by omega)]
  match two, ht with
  | true, _ => rw [if_pos rfl, nI_dec (by omega) (by omega)]
  | false, ht =>
    rw [if_neg (by decide), decide_eq_false (nI_nm (by omega)), ht rfl]
    cases eO N l <;> cases decide (l = j) <;> rfl
theorem x_rank (h : IN N σ 0 0 0) {two : Bool} {j k : Nat} (hj : j < nL N) (hk : k < nL N) (ht : two = false → k = j) {s : Rs} (hs : s.1 < 45) (hR : RK two σ s) :
    Ho (f_X5_rank (nI j) (sc two k) σ) (fun τ => Fr CS σ τ ∧ RK two τ (insE s (j, k, rP N (lvP N j k)))) := by
  have hN := h.NV
  have hI := slP_is hN (lvP N j k)
  have hx := xP_is hN (lvP N j k)
  unfold f_X5_rank
  refine ho_bind (x_takeS hN h.CG _ _ (lv_two hN hj hk ht) hI) (fun τ hτ => ?_)
  obtain ⟨F1, h7, h8⟩ := hτ
  have hτ := h.q (F1.mono (by decide : ∀ i, i ∈ [7, 8] → i ∈ CS))
  refine ho_bind (x_load hτ hI h7 h8 hx) (fun υ hυ => ?_)
  obtain ⟨F2, -, J, -⟩ := hυ
  have R2 : RK two υ s := (hR.fr F1 (by decide) (by decide) (by decide) (by decide) (by decide)).fr F2 (by decide) (by decide) (by decide) (by decide) (by decide)
  refine ho_bind (x_insert hs R2 j k J) (fun ω hω => ho_some ⟨?_, hω.2⟩)
  exact ((F1.mono (by decide)).trans (F2.mono (by decide))).trans (hω.1.mono (by decide))
theorem bt_two (hN : NV N) {S : Int32} (h : IS N S) {j k : Nat} (hj : j < nL N) (hk : k < nL N) : ∀ l, l < nL N → bt ((S &&& (((1 : Int32) <<< (nI j &&& 31)) ^^^ (-1 : Int32))) &&& (((1 : Int32) <<< (nI k &&& 31)) ^^^ (-1 : Int32))) l = lvP N j k l := fun l hl => by
  have hm := hN.2.2.1
  rw [bt_wo _ (by omega) (by omega), bt_wo _ (by omega) (by omega), h.all hN l hl]
  unfold lvP
  cases eO N l <;> cases decide (l = j) <;> rfl
theorem y_ranks (h : IN N σ 0 0 0) {j k : Nat} (hj : j < nL N) (hk : k < nL N) {s : Rs} (hs : s.1 < 45) (hR : RM σ s) :
    Ho (f_X6_ranks (nI j) (nI k) σ) (fun τ => QM σ τ ∧ RM τ (insE s (j, k, rP N (lvP N j k)))) := by
  have hN := h.NV
  have hI := slP_is hN (lvP N j k)
  have hx := xP_is hN (lvP N j k)
  unfold f_X6_ranks
  refine ho_bind (y_inSet hN h.MG) (fun S hS => ?_)
  obtain ⟨S, S2⟩ := S
  obtain ⟨e1, hS⟩ := hS
  obtain rfl : S2 = σ := e1
  try dsimp only
  refine ho_bind (y_judges h hI (bt_two hN hS hj hk) hx) (fun τ hτ => ?_)
  obtain ⟨F1, k1, j1, j2, j3, j4⟩ := hτ
  have hτ := h.m (Jd_QM F1 k1)
  obtain ⟨n, L⟩ := s
  obtain ⟨r1, r2, r3⟩ := hR
  try dsimp only at hs r1 r2 r3
  have eP : wr (rho N (lvP N j k) (xP N (lvP N j k))) (jw (rho N (lvP N j k) (xP N (lvP N j k))) (lvP N j k) (nL N)) = rP N (lvP N j k) := rfl
  have ep := jc_pos (rho N (lvP N j k) (xP N (lvP N j k))) (lvP N j k) (nL N)
  have cl := jc_le (rho N (lvP N j k) (xP N (lvP N j k))) (lvP N j k) (nL N)
  rw [eP] at j2 j3 ep
  generalize jc (rho N (lvP N j k) (xP N (lvP N j k))) (lvP N j k) (nL N) = c at j4 ep cl
  generalize rP N (lvP N j k) = r at j2 j3 ep
  have hm := hN.2.2.1
  have pl := pos_le L r n
  have ol := ovr_le L n
  rw [k1 23 (by decide) (by decide) (by decide), r1]
  refine ho_nm ?_
  refine y_ranks25 (L := L) (r := r) hs j2 (fun υ hF hA hB => ?_) n 1000 τ (Nat.le_refl n) (by omega) Fr.refl rfl (fun q hq => ?_) (fun q a b => absurd a (by omega))
  · refine ho_chk (ib_nI (by omega) (by omega)) ?_
    rw [nI31 (by omega)]
    refine ho_nm (ho_nm (ho_nm (ho_nm (ho_nm ?_))))
    obtain ⟨p0, p1, p2, p3, po⟩ := put4 υ (i := 99) (j := 100) (k := 101) (l := 102) (by decide) (by decide) (pos L r n) (nI j) (nI k) (υ.2 87 16) (υ.2 87 17)
    have z1 : (sI (sI υ 99 (pos L r n) (nI j)) 100 (pos L r n) (nI k)).2 = υ.2 := rfl
    have z2 : (sL (sI (sI υ 99 (pos L r n) (nI j)) 100 (pos L r n) (nI k)) 101 (pos L r n) (υ.2 87 16)).2 87 = υ.2 87 := sL_ne _ _ _ (by decide)
    rw [z1, z2]
    have F2 : Fr [99, 100, 101, 102] υ (sL (sL (sI (sI υ 99 (pos L r n) (nI j)) 100 (pos L r n) (nI k)) 101 (pos L r n) (υ.2 87 16)) 102 (pos L r n) (υ.2 87 17)) := (((Fr.refl.sI (by decide)).sI (by decide)).sL (by decide)).sL (by decide)
    generalize sL (sL (sI (sI υ 99 (pos L r n) (nI j)) 100 (pos L r n) (nI k)) 101 (pos L r n) (υ.2 87 16)) 102 (pos L r n) (υ.2 87 17) = β at p0 p1 p2 p3 po F2
    have b87 : β.1 87 = τ.1 87 := by rw [F2.i (i := 87) (by decide), hF.i (i := 87) (by decide)]
    have F3 : Fr MS S2 β := ((F1.mono (by decide)).trans (hF.mono (by decide))).trans (F2.mono (by decide))
    have hY : ∀ q, q < n + 1 → HY β q (ins L (pos L r n) (j, k, r) q) := by
      intro q hq
      unfold HY
      by_cases e : q = pos L r n
      · rw [e]
        have e2 : ins L (pos L r n) (j, k, r) (pos L r n) = (j, k, r) := by unfold ins; rw [if_neg (Nat.lt_irrefl _), if_pos rfl]
        rw [e2, p0, p1, p2, p3, hF.l (i := 87) (by decide)]
        exact ⟨rfl, rfl, j2, j3⟩
      · obtain ⟨o0, o1, o2, o3⟩ := po q e
        rw [o0, o1, o2, o3]
        unfold ins
        by_cases w : q < pos L r n
        · rw [if_pos w]; exact hA q w
        · rw [if_neg w, if_neg e]; exact hB q (by omega) (by omega)
    have fin : ∀ v : Nat, v = (if 1 < r then 1 else 0) → QM S2 (sI (sI β 87 23 (β.1 87 23 + (1 : Int32))) 87 24 ((sI β 87 23 (β.1 87 23 + (1 : Int32))).1 87 24 + nI v)) ∧ RM (sI (sI β 87 23 (β.1 87 23 + (1 : Int32))) 87 24 ((sI β 87 23 (β.1 87 23 + (1 : Int32))).1 87 24 + nI v)) (insE (n, L) (j, k, r)) := by
      intro v hv
      refine ⟨⟨(F3.sI (by decide)).sI (by decide), ?_, ?_⟩, ?_, ?_, ?_⟩
      · rw [sI_off _ _ _ _ (by decide), sI_off _ _ _ _ (by decide), b87, k1 3 (by decide) (by decide) (by decide)]
      · rw [sI_off _ _ _ _ (by decide), sI_off _ _ _ _ (by decide), b87, k1 6 (by decide) (by decide) (by decide)]
      · rw [sI_off _ _ _ _ (by decide), sI_at, b87, k1 23 (by decide) (by decide) (by decide), r1]
        exact nI_1 n
      · rw [sI_at, sI_off _ _ _ _ (by decide), b87, k1 24 (by decide) (by decide) (by decide), r2, nI_add, insE_ovr, hv]
      · intro q hq
        have := hY q hq
        unfold HY at this ⊢
        rw [sI_ne _ _ _ (show 99 ≠ 87 by decide), sI_ne _ _ _ (show 100 ≠ 87 by decide), sI_2, sI_ne _ _ _ (show 99 ≠ 87 by decide), sI_ne _ _ _ (show 100 ≠ 87 by decide), sI_2]
        exact this
    refine ho_if (fun z => ho_nm (ho_some (fin 0 ?_))) (fun z => ho_nm (ho_some (fin 1 ?_)))
    · rw [sI_off _ _ _ _ (show 18 ≠ 23 by decide), b87, j4] at z
      have := i_le.mp z
      rw [nI_t (by omega)] at this
      have e0 : (0 : Int32).toInt = 0 := rfl
      rw [if_neg (fun w => by have := ep.mpr w; omega)]
    · rw [sI_off _ _ _ _ (show 18 ≠ 23 by decide), b87, j4] at z
      have : ¬ (nI c).toInt ≤ (0 : Int32).toInt := fun w => z (i_le.mpr w)
      rw [nI_t (by omega)] at this
      have e0 : (0 : Int32).toInt = 0 := rfl
      rw [if_pos (ep.mp (by omega))]
  · have := r3 q hq
    unfold HY at this ⊢
    rw [F1.i (i := 99) (by decide), F1.i (i := 100) (by decide), F1.l (i := 101) (by decide), F1.l (i := 102) (by decide)]
    exact this
/-- all outages of one line -/
noncomputable def RLs (N : Net) : Nat → Rs
  | 0 => (0, fun _ => (0, 0, 0))
  | l + 1 => if eO N l = true then insE (RLs N l) (l, l, rP N (lvP N l l)) else RLs N l
/-- how many serve -/
def svN (N : Net) : Nat → Nat
  | 0 => 0
  | l + 1 => svN N l + (if eO N l = true then 1 else 0)
theorem svN_le (N : Net) : ∀ l, svN N l ≤ l
  | 0 => Nat.le_refl 0
  | l + 1 => by
    have := svN_le N l
    rw [svN]
    split <;> omega
theorem svN_mono (N : Net) (l : Nat) : ∀ d, svN N l ≤ svN N (l + d)
  | 0 => Nat.le_refl _
  | d + 1 => by
    have := svN_mono N l d
    rw [← Nat.add_assoc, svN]
    omega
theorem RLs_n (N : Net) : ∀ l, (RLs N l).1 = svN N l
  | 0 => rfl
  | l + 1 => by
    rw [RLs, svN]
    by_cases c : eO N l = true
    · rw [if_pos c, if_pos c]
      show (RLs N l).1 + 1 = _
      rw [RLs_n N l]
    · rw [if_neg c, if_neg c, RLs_n N l]; rfl
theorem x_rankLines (h : IN N σ 0 0 0) : Ho (f_X5_rankLines σ) (fun τ => Fr CS σ τ ∧ RK false τ (RLs N (nL N))) := by
  have hN := h.NV
  have hm := hN.2.2.1
  have loop : ∀ (d l fuel : Nat) (τ : St), l + d = nL N → d < fuel → Fr CS σ τ → RK false τ (RLs N l) → Ho (f_X5_rankLines_10 (fun (σ10 : St) => some σ10) fuel (nI l) τ) (fun τ => Fr CS σ τ ∧ RK false τ (RLs N (nL N))) := by
    intro d
    induction d with
    | zero =>
      intro l fuel τ hd hf hF hR
      obtain ⟨fuel, rfl⟩ : ∃ f, fuel = f + 1 := ⟨fuel - 1, by omega⟩
      have e : l = nL N := by omega
      subst e
      rw [f_X5_rankLines_10, (h.q hF).CG.2.1]
      exact ho_t (nI_ge' (Nat.le_refl _) (by omega)) (ho_some ⟨hF, hR⟩)
    | succ d ih =>
      intro l fuel τ hd hf hF hR
      obtain ⟨fuel, rfl⟩ : ∃ f, fuel = f + 1 := ⟨fuel - 1, by omega⟩
      have hlt : l < nL N := by omega
      have hτ := h.q hF
      rw [f_X5_rankLines_10, hτ.CG.2.1, nI31 (k := l) (by omega), hτ.e30 hlt]
      refine ho_f (nI_nge' (by omega) (by omega)) (ho_chk (ib_nI (by omega) (by omega)) ?_)
      by_cases hO : eO N l = true
      · refine ho_f (by rw [hO]; decide) ?_
        refine ho_bind (x_rank (two := false) hτ hlt hlt (fun _ => rfl) (by rw [RLs_n]; have := svN_le N l; omega) hR) (fun υ hυ => ?_)
        rw [nI_1]
        refine ih (l + 1) fuel υ (by omega) (by omega) (hF.trans hυ.1) ?_
        rw [RLs, if_pos hO]
        exact hυ.2
      · refine ho_t (by rw [bf_of hO]; rfl) ?_
        rw [nI_1]
        refine ih (l + 1) fuel τ (by omega) (by omega) hF ?_
        rw [RLs, if_neg hO]
        exact hR
  unfold f_X5_rankLines
  exact ho_nm (loop (nL N) 0 1000 _ (by omega) (by omega) (Fr.refl.sI (by decide)) ⟨sI_at _ _ _ _, fun k hk => absurd hk (Nat.not_lt_zero k)⟩)
theorem y_ranksAll0 (h : IN N σ 0 0 0) : Ho (f_X6_ranksAll (0 : Int32) σ) (fun τ => QM σ τ ∧ RM τ (RLs N (nL N))) := by
  have hN := h.NV
  have hm := hN.2.2.1
  have loop : ∀ (d l fuel : Nat) (τ : St), l + d = nL N → d < fuel → QM σ τ → RM τ (RLs N l) → Ho (f_X6_ranksAll_12 (0 : Int32) (fun (σ25 : St) => some σ25) fuel (nI l) τ) (fun τ => QM σ τ ∧ RM τ (RLs N (nL N))) := by
    intro d
    induction d with
    | zero =>
      intro l fuel τ hd hf hF hR
      obtain ⟨fuel, rfl⟩ : ∃ f, fuel = f + 1 := ⟨fuel - 1, by omega⟩
      have e : l = nL N := by omega
      subst e
      rw [f_X6_ranksAll_12, show (1 : Int32).toNatClampNeg = 1 from rfl, (h.m hF).MG.2.1]
      exact ho_t (nI_ge' (Nat.le_refl _) (by omega)) (ho_some ⟨hF, hR⟩)
    | succ d ih =>
      intro l fuel τ hd hf hF hR
      obtain ⟨fuel, rfl⟩ : ∃ f, fuel = f + 1 := ⟨fuel - 1, by omega⟩
      have hlt : l < nL N := by omega
      have hτ := h.m hF
      rw [f_X6_ranksAll_12, show (1 : Int32).toNatClampNeg = 1 from rfl, hτ.MG.2.1]
      refine ho_f (nI_nge' (by omega) (by omega)) (ho_jn (ho_t rfl ?_))
      try dsimp only
      have last : ∀ (υ : St), QM σ υ → RM υ (RLs N (l + 1)) → ∀ f, Ho (f_X6_ranksAll_34 (0 : Int32) (nI l) (fun (σ23 : St) => f_X6_ranksAll_12 (0 : Int32) (fun (σ25 : St) => some σ25) fuel (nI l + 1) σ23) (f + 1) (nI l + 1) υ) (fun τ => QM σ τ ∧ RM τ (RLs N (nL N))) := by
        intro υ hQ hR2 f
        rw [f_X6_ranksAll_34]
        refine ho_jn (ho_t rfl ?_)
        try dsimp only
        rw [nI_1]
        exact ho_t (nI_ge' (Nat.le_refl _) (by omega)) (ih (l + 1) fuel υ (by omega) (by omega) hQ hR2)
      rw [show (1000 : Nat) = 998 + 1 + 1 from rfl, f_X6_ranksAll_34]
      refine ho_jn (ho_t rfl ?_)
      try dsimp only
      rw [show nI l + (1 : Int32) = nI (l + 1) from nI_1 l]
      refine ho_f (nI_nge' (by omega) (by omega)) (ho_be (y_isIn hN hτ.MG hlt) ?_)
      try dsimp only
      by_cases hO : eO N l = true
      · refine ho_f (by rw [hO]; decide) (ho_be (y_isIn hN hτ.MG hlt) ?_)
        try dsimp only
        refine ho_f (by rw [hO]; decide) (ho_bind (y_ranks hτ hlt hlt (by rw [RLs_n]; have := svN_le N l; omega) hR) (fun υ hυ => ?_))
        have q := last υ (hF.trans hυ.1) (by rw [RLs, if_pos hO]; exact hυ.2) 998
        rw [show nI l + 1 = nI (l + 1) from nI_1 l] at q
        exact q
      · have q := last τ hF (by rw [RLs, if_neg hO]; exact hR) 998
        rw [show nI l + 1 = nI (l + 1) from nI_1 l] at q
        exact ho_t (by rw [bf_of hO]; rfl) q
  unfold f_X6_ranksAll
  refine ho_nm (ho_nm (loop (nL N) 0 1000 _ (by omega) (by omega) ⟨(Fr.refl.sI (by decide)).sI (by decide), ?_, ?_⟩ ⟨?_, sI_at _ _ _ _, fun k hk => absurd hk (Nat.not_lt_zero k)⟩))
  · rw [sI_off _ _ _ _ (by decide), sI_off _ _ _ _ (by decide)]
  · rw [sI_off _ _ _ _ (by decide), sI_off _ _ _ _ (by decide)]
  · rw [sI_off _ _ _ _ (by decide), sI_at]; rfl
/-- all outages of two lines: those of j and of the d lines behind it -/
noncomputable def RQ (N : Net) (j : Nat) (s : Rs) : Nat → Rs
  | 0 => s
  | d + 1 => if eO N j = true ∧ eO N (j + 1 + d) = true then insE (RQ N j s d) (j, j + 1 + d, rP N (lvP N j (j + 1 + d))) else RQ N j s d
noncomputable def RP (N : Net) : Nat → Rs
  | 0 => (0, fun _ => (0, 0, 0))
  | j + 1 => RQ N j (RP N j) (nL N - (j + 1))
theorem RQ_n (N : Net) (j : Nat) (s : Rs) : ∀ d, (RQ N j s d).1 = s.1 + (if eO N j = true then svN N (j + 1 + d) - svN N (j + 1) else 0)
  | 0 => by rw [RQ]; split <;> simp
  | d + 1 => by
    have ih := RQ_n N j s d
    have mo := svN_mono N (j + 1) d
    rw [RQ, ← Nat.add_assoc, svN]
    by_cases c : eO N j = true
    · rw [if_pos c] at ih ⊢
      by_cases c2 : eO N (j + 1 + d) = true
      · rw [if_pos ⟨c, c2⟩, if_pos c2]
        show (RQ N j s d).1 + 1 = _
        omega
      · rw [if_neg (fun w => c2 w.2), if_neg c2]; omega
    · rw [if_neg c] at ih ⊢
      rw [if_neg (fun w => c w.1)]; exact ih
theorem RP_n (N : Net) : ∀ j, j ≤ nL N → 2 * (RP N j).1 + svN N j * svN N j + svN N j = 2 * (svN N j * svN N (nL N))
  | 0, _ => by rw [RP, svN]; simp
  | j + 1, hj => by
    have ih := RP_n N j (by omega)
    have e := RQ_n N j (RP N j) (nL N - (j + 1))
    have mo := svN_mono N (j + 1) (nL N - (j + 1))
    rw [show j + 1 + (nL N - (j + 1)) = nL N by omega] at e mo
    rw [RP, e]
    have sj : svN N (j + 1) = svN N j + (if eO N j = true then 1 else 0) := rfl
    rw [sj] at mo ⊢
    generalize svN N (nL N) = S at *
    generalize svN N j = A at *
    generalize (RP N j).1 = p at *
    by_cases c : eO N j = true
    · rw [if_pos c, if_pos c] at *
      obtain ⟨D, rfl⟩ : ∃ D, S = A + 1 + D := ⟨S - (A + 1), by omega⟩
      rw [show A + 1 + D - (A + 1) = D by omega]
      grind
    · rw [if_neg c, if_neg c] at *
      simpa using ih
theorem RP_45 {S A p : Nat} (hS : S ≤ 10) (hA : A ≤ S) (h : 2 * p + A * A + A = 2 * (A * S)) : p ≤ 45 := by
  have q : ∀ S, S < 11 → ∀ A, A < 11 → A ≤ S → 2 * (A * S) ≤ A * A + A + 90 := by decide
  have := q S (by omega) A (by omega) hA
  omega
theorem RQ_45 (hN : NV N) {j d : Nat} (hj : j + 1 + d < nL N) (h1 : eO N j = true) (h2 : eO N (j + 1 + d) = true) : (RQ N j (RP N j) d).1 < 45 := by
  have hm := hN.2.2.1
  have e := RQ_n N j (RP N j) d
  have e2 := RQ_n N j (RP N j) (d + 1)
  have e3 := RQ_n N j (RP N j) (nL N - (j + 1))
  have q := RP_n N (j + 1) (by omega)
  have m1 := svN_mono N (j + 1) d
  have m2 := svN_mono N (j + 1 + (d + 1)) (nL N - (j + 1 + (d + 1)))
  have m3 := svN_mono N (j + 1) (nL N - (j + 1))
  rw [show j + 1 + (d + 1) + (nL N - (j + 1 + (d + 1))) = nL N by omega] at m2
  rw [show j + 1 + (nL N - (j + 1)) = nL N by omega] at m3 e3
  have s2 : svN N (j + 1 + (d + 1)) = svN N (j + 1 + d) + 1 := by rw [← Nat.add_assoc, svN, if_pos h2]
  rw [if_pos h1] at e e2 e3
  have r : (RP N (j + 1)).1 = (RQ N j (RP N j) (nL N - (j + 1))).1 := rfl
  have := RP_45 (by have := svN_le N (nL N); omega) m3 q
  omega
end Ra
