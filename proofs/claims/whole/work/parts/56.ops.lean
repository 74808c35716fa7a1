/-! operations that read flows -/
def PA (ρ : Rat) (fl : Int32) (v : Int64) : Prop := ∃ n d, LT ρ n d ∧ v.toInt = if fl = 0 then n else d
theorem PA.one {ρ : Rat} {fl : Int32} {v w : Int64} (h : PA ρ fl v) (g : PA ρ fl w) : v = w := by
  obtain ⟨n, d, h1, h2⟩ := h
  obtain ⟨n', d', g1, g2⟩ := g
  obtain ⟨e1, e2⟩ := h1.one g1
  exact l_ext (by rw [h2, g2, e1, e2])
theorem rdiv {ρ : Rat} {p q : Int} (hq : 0 < q) (h : (p : Rat) = ρ * (q : Rat)) : (p : Rat) / (q : Rat) = ρ := by
  have : ((q : Int) : Rat) ≠ 0 := fun e => by have : q = 0 := rat_eq (y := 0) e; omega
  rw [h]
  grind
theorem x_partS {p q : Int64} {ρ : Rat} (hp : p.toInt.natAbs < 2 ^ 62) (hq : 0 < q.toInt) (hq2 : q.toInt < 2 ^ 40) (h : ((p.toInt : Int) : Rat) = ρ * ((q.toInt : Int) : Rat)) (fl : Int32) (σ : St) : Ho (f_X5_part p q fl σ) (fun r => r.2 = σ ∧ PA ρ fl r.1) :=
  ho_mono (x_part hp hq hq2 fl σ) (fun r hr => ⟨hr.1, by obtain ⟨n, d, h1, h2⟩ := hr.2; exact ⟨n, d, by rw [rdiv hq h] at h1; exact h1, h2⟩⟩)
theorem y_partS {p q : Int64} {ρ : Rat} (hp : p.toInt.natAbs < 2 ^ 62) (hq : 0 < q.toInt) (hq2 : q.toInt < 2 ^ 40) (h : ((p.toInt : Int) : Rat) = ρ * ((q.toInt : Int) : Rat)) (fl : Int32) (σ : St) : Ho (f_X6_part p q fl σ) (fun r => r.2 = σ ∧ PA ρ fl r.1) :=
  ho_mono (y_part hp hq hq2 fl σ) (fun r hr => ⟨hr.1, by obtain ⟨n, d, h1, h2⟩ := hr.2; exact ⟨n, d, by rw [rdiv hq h] at h1; exact h1, h2⟩⟩)
/-- a cell that is a bounded flow times a bounded whole -/
theorem cell_bd {p : Int64} {ρ : Rat} {W : Int} (h : ((p.toInt : Int) : Rat) = ρ * (W : Rat)) (hρ : ab ρ ≤ 495) (hW : 0 < W) (hW2 : W ≤ 4084101) : p.toInt.natAbs ≤ 495 * 4084101 := by
  have w1 : ab (W : Rat) ≤ 4084101 := by
    rw [ab_int]
    have : (((W.natAbs : Nat) : Int) : Rat) ≤ ((4084101 : Int) : Rat) := Rat.intCast_le_intCast.mpr (by omega)
    exact this
  have w2 := mul_le2 hρ w1 (ab_nn _) (by grind)
  rw [← ab_mul, ← h, ab_int] at w2
  have w3 : ((p.toInt.natAbs : Int) : Rat) ≤ ((495 * 4084101 : Int) : Rat) := Rat.le_trans w2 (by decide +kernel)
  have := rat_le w3
  omega
section Op
variable {N : Net} {σ : St}
theorem IN.MG {x y z : Int32} (h : IN N σ x y z) : MG (σ.1 88) N := h.2.2.1
theorem IN.CG {x y z : Int32} (h : IN N σ x y z) : CG σ 24 N := h.2.1
theorem IN.NV {x y z : Int32} (h : IN N σ x y z) : NV N := h.1
theorem lv_all (hN : NV N) : ∀ l, l < nL N → lvX N (-1) (-1) l = eO N l := fun l hl => by
  have : ¬ nI l = (-1 : Int32) := fun w => by
    have q := congrArg Int32.toInt w
    rw [nI_t (by have := hN.2.2.1; omega)] at q
    have : (-1 : Int32).toInt = -1 := rfl
    omega
  unfold lvX
  rw [decide_eq_false this]
  cases eO N l <;> rfl
/-- the live lines but one -/
def lvW (N : Net) (k : Nat) (l : Nat) : Bool := eO N l && !decide (l = k)
theorem lv_wo (hN : NV N) {k : Nat} (hk : k < nL N) : ∀ l, l < nL N → lvX N (nI k) (-1) l = lvW N k l := fun l hl => by
  have hm := hN.2.2.1
  have : ¬ nI l = (-1 : Int32) := fun w => by
    have q := congrArg Int32.toInt w
    rw [nI_t (by omega)] at q
    have : (-1 : Int32).toInt = -1 := rfl
    omega
  unfold lvX lvW
  rw [decide_eq_false this, decide_eq_decide.mpr ⟨fun e => nI_inj (by omega) (by omega) e, fun e => by rw [e]⟩]
  cases eO N l <;> cases decide (l = k) <;> rfl
theorem IS.all {S : Int32} (hN : NV N) (h : IS N S) : ∀ l, l < nL N → bt S l = eO N l := fun l hl => by
  have := h l (by have := hN.2.2.1; omega)
  rw [this, decide_eq_true hl]
  rfl
theorem IS.wo {S : Int32} (hN : NV N) (h : IS N S) {k : Nat} (hk : k < nL N) : ∀ l, l < nL N → bt (S &&& (((1 : Int32) <<< (nI k &&& 31)) ^^^ (-1 : Int32))) l = lvW N k l := fun l hl => by
  have hm := hN.2.2.1
  rw [bt_wo S (by omega) (by omega), h.all hN l hl]
  rfl
theorem y_flowTold {lv : Nat → Bool} {sl : Nat → Nat} (hN : NV N) (hG : MG (σ.1 88) N) {S : Int32} (hl : ∀ l, l < nL N → bt S l = lv l) (hI : IslN N lv sl) {x : Nat → Rat} (hJ : ∀ j, j < nB N → SvJ σ x sl j) (hb : ∀ l, l < nL N → ab (fl_ N lv x l) ≤ 495) {l : Nat} (hlt : l < nL N) (fl : Int32) :
    Ho (f_X6_flowTold (nI l) S fl σ) (fun r => r.2 = σ ∧ PA (fl_ N lv x l) fl r.1) := by
  have hm := hN.2.2.1
  have hn := hN.2.1
  obtain ⟨q1, q2, q3, -⟩ := hG.2.2.2 l hlt
  obtain ⟨v1, v2, -⟩ := hN.2.2.2.2 l hlt
  obtain ⟨a1, a2, a3, a4⟩ := hJ _ v1
  have L0 : f_X6_lineAt (nI l) (0 : Int32) σ = some (nI (eA N l), σ) := by rw [show (0 : Int32) = nI 0 from rfl, y_lineAt (by omega) (by omega), Nat.add_zero, q1]
  unfold f_X6_flowTold
  refine ho_bind (y_flowOf hN hG hl hI hJ hb hlt) (fun q hq => ?_)
  obtain ⟨e1, e2⟩ := hq
  rw [e1]
  refine ho_be L0 (ho_chk (ib_nI (by omega) (by omega)) ?_)
  try dsimp only
  rw [nI31 (by omega)]
  have cb := cell_bd e2 (hb l hlt) a1 a2
  refine ho_bind (y_partS (by omega) a1 (by omega) e2 fl σ) (fun r hr => ho_some hr)
/-- the flows as told, the lines lv living: the class -/
theorem x_flows {lv : Nat → Bool} {sl : Nat → Nat} (h : IN N σ 0 0 0) {j k pl mi : Int32} (hl : ∀ l, l < nL N → lvX N j k l = lv l) (hI : IslN N lv sl) {x y : Nat → Rat} (hx : SolN N lv sl (fQ N) x) (hy : SolN N lv sl (pQ pl mi) y) {α : Type} {K : St → Option α} {Q : α → Prop}
    (hK : ∀ (τ : St) (W : Int), Fr CS σ τ → IN N τ 0 0 0 → ((W : Int) : Rat) = dt (nB N) (AmQ N lv sl) → 0 < W → W ≤ 4084101 → SVc τ N lv x y W → Lv7 τ N lv → (∀ i, i < nB N → τ.1 8 i = nI (sl i)) → τ.1 6 = σ.1 6 → Ho (K τ) Q) :
    Ho ((f_X4_take j k σ).bind (fun q6 => (f_X4_solve pl mi q6).bind K)) Q := by
  refine ho_bind (x_takeS h.NV h.CG j k hl hI) (fun τ hτ => ?_)
  obtain ⟨F1, h7, h8⟩ := hτ
  refine ho_bind (x_solveS h.NV hI (h.CG.fr F1 (by decide)) h7 h8 pl mi hx hy) (fun υ hυ => ?_)
  obtain ⟨F2, k2, k3, W, hW, W0, W1, hS⟩ := hυ
  have F : Fr CS σ υ := (F1.mono (by decide)).trans (F2.mono (by decide))
  exact hK υ W F (h.q F) hW W0 W1 hS (fun l hl => by rw [F2.i (i := 7) (by decide)]; exact h7 l hl) (fun i hi => by rw [F2.i (i := 8) (by decide)]; exact h8 i hi) (by rw [k3, F1.i (i := 6) (by decide)])
theorem Fr.QM {τ : St} {W : List Nat} (h : Fr W σ τ) (h0 : 87 ∉ W) (hs : ∀ i, i ∈ W → i ∈ MS) : QM σ τ := ⟨h.mono hs, by rw [h.i h0], by rw [h.i h0]⟩
/-- the reference: feeds laid, then solved -/
theorem y_told {lv : Nat → Bool} {sl : Nat → Nat} (h : IN N σ 0 0 0) (hI : IslN N lv sl) {x : Nat → Rat} (hx : SolN N lv sl (fQ N) x) {S : Int32} (hl : ∀ l, l < nL N → bt S l = lv l) {τ : St} (F : QM σ τ) (h93 : ∀ i, i < nB N → (τ.2 93 i).toInt = eQ N i) :
    Ho (f_X6_solves S τ) (fun υ => QM σ υ ∧ IN N υ 0 0 0 ∧ (∀ i, i < nB N → υ.1 94 i = nI (sl i)) ∧ ∀ j, j < nB N → SvJ υ x sl j) := by
  have hm := h.m F
  refine ho_mono (y_solvesS (fd := eQ N) hm.NV hm.MG hl hI h93 (fun i hi => hm.NV.2.2.2.1 i (by have := hm.NV.2.1; omega)) hx) (fun υ hυ => ?_)
  obtain ⟨F2, k2, -, h94, hJ⟩ := hυ
  have F3 : QM τ υ := ⟨F2.mono (by decide), k2 3 (by decide), k2 6 (by decide)⟩
  exact ⟨F.trans F3, h.m (F.trans F3), h94, hJ⟩
theorem y_one {lv : Nat → Bool} {sl : Nat → Nat} (h : IN N σ 0 0 0) (hI : IslN N lv sl) {x : Nat → Rat} {pl mi : Int32} (hx : SolN N lv sl (pQ pl mi) x) {S : Int32} (hl : ∀ l, l < nL N → bt S l = lv l) {τ : St} (F : QM σ τ) (h93 : ∀ i, i < 6 → (τ.2 93 i).toInt = pvI pl mi i) :
    Ho (f_X6_solves S τ) (fun υ => QM σ υ ∧ IN N υ 0 0 0 ∧ (∀ i, i < nB N → υ.1 94 i = nI (sl i)) ∧ ∀ j, j < nB N → SvJ υ x sl j) := by
  have hm := h.m F
  refine ho_mono (y_solvesS (fd := fun i => pvI pl mi i) hm.NV hm.MG hl hI (fun i hi => h93 i (by have := hm.NV.2.1; omega)) (fun i hi => by have := pvI_bd pl mi i; omega) hx) (fun υ hυ => ?_)
  obtain ⟨F2, k2, -, h94, hJ⟩ := hυ
  have F3 : QM τ υ := ⟨F2.mono (by decide), k2 3 (by decide), k2 6 (by decide)⟩
  exact ⟨F.trans F3, h.m (F.trans F3), h94, hJ⟩
/-- an operation answers alike on both sides and keeps the invariant -/
def OE {α : Type} (N : Net) (c : Option (α × St)) (m : St → Option (α × St)) : Prop := Ho c (fun q => Ho (m q.2) (fun r => r.1 = q.1 ∧ ∃ N', IN N' r.2 0 0 0))
theorem op_flow (h : IN N σ 0 0 0) (a b : Int32) : OE N (f_X5_flow a b σ) (f_X6_flow a b) := by
  unfold OE f_X5_flow
  refine ho_be (x_hasLine h a) ?_
  try dsimp only
  by_cases g1 : inR a 0 ((nL N : Int) - 1) = true
  · rw [g1]
    refine ho_f (by decide) (ho_be (x_flag b σ) ?_)
    try dsimp only
    by_cases g2 : inR b 0 1 = true
    · rw [g2]
      refine ho_f (by decide) ?_
      obtain ⟨l, hlt, rfl⟩ := inR_nI g1
      have hN := h.NV
      obtain ⟨sl, hI⟩ := Isl.ex (nB N) (eA N) (eB N) (eO N) (nL N) hN.ab
      obtain ⟨x, -, hx⟩ := Sol.ex hI hN.ab hN.s0 (fQ N)
      obtain ⟨y, -, hy⟩ := Sol.ex hI hN.ab hN.s0 (pQ (-1) (-1))
      have hb := fl_bd hN hx (fQ_bd hN) hI
      refine x_flows h (lv_all hN) hI hx hy (fun τ W F hτ hW W0 W1 hS h7 h8 _ => ?_)
      have hm := hN.2.2.1
      refine ho_chk (ib_nI (by omega) (by omega)) ?_
      rw [nI31 (by omega)]
      have cb := cell_bd (hS.2.2.1 l hlt) (hb l hlt) W0 W1
      refine ho_bind (x_partS (ρ := fl_ N (eO N) x l) (by omega) (by rw [hS.1]; exact W0) (by rw [hS.1]; omega) (by rw [hS.1]; exact hS.2.2.1 l hlt) b τ) (fun q hq => ho_some ?_)
      obtain ⟨e1, hp⟩ := hq
      rw [e1]
      unfold f_X6_flow
      refine ho_be (y_isLine hτ _) ?_
      try dsimp only
      rw [g1]
      refine ho_f (by decide) (ho_be (y_in b 0 1 τ) ?_)
      try dsimp only
      rw [show inR b (0 : Int64).toInt (1 : Int64).toInt = inR b 0 1 from rfl, g2]
      refine ho_f (by decide) (ho_bind (y_asTold hN hτ.MG) (fun τ1 h1 => ?_))
      obtain ⟨F1, h93⟩ := h1
      have Q1 : QM τ τ1 := F1.QM (by decide) (by decide)
      refine ho_bind (y_inSet hN (hτ.m Q1).MG) (fun s hs => ?_)
      obtain ⟨s1, s2⟩ := hs
      rw [s1]
      refine ho_bind (y_told hτ hI hx (s2.all hN) Q1 h93) (fun υ hυ => ?_)
      obtain ⟨Q2, hυ2, h94, hJ⟩ := hυ
      refine ho_bind (y_inSet hN hυ2.MG) (fun s' hs' => ?_)
      obtain ⟨s1', s2'⟩ := hs'
      rw [s1']
      refine ho_bind (y_flowTold hN hυ2.MG (s2'.all hN) hI hJ hb hlt b) (fun r hr => ho_some ⟨?_, N, ?_⟩)
      · exact hr.2.one hp
      · rw [hr.1]; exact hυ2
    · have g2' : inR b 0 1 = false := by cases w : inR b 0 1; rfl; exact absurd w g2
      rw [g2']
      refine ho_t rfl (ho_bind (x_bad h) (fun q hq => ho_some ?_))
      unfold f_X6_flow
      refine ho_be (y_isLine hq.2 a) ?_
      try dsimp only
      rw [g1]
      refine ho_f (by decide) (ho_be (y_in b 0 1 q.2) ?_)
      try dsimp only
      rw [show inR b (0 : Int64).toInt (1 : Int64).toInt = inR b 0 1 from rfl, g2']
      exact ho_t rfl (ho_bind (y_bad hq.2) (fun r hr => ho_some ⟨by rw [hr.1, hq.1], N, hr.2⟩))
  · have g1' : inR a 0 ((nL N : Int) - 1) = false := by cases w : inR a 0 ((nL N : Int) - 1); rfl; exact absurd w g1
    rw [g1']
    refine ho_t rfl (ho_bind (x_bad h) (fun q hq => ho_some ?_))
    unfold f_X6_flow
    refine ho_be (y_isLine hq.2 a) ?_
    try dsimp only
    rw [g1']
    exact ho_t rfl (ho_bind (y_bad hq.2) (fun r hr => ho_some ⟨by rw [hr.1, hq.1], N, hr.2⟩))
end Op
