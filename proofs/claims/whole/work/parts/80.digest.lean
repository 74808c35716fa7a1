/-! digest -/
section Dg
variable {N : Net} {σ : St}
theorem nI_lt' {a b : Nat} (h : a < b) (hb : b < 1000) : nI a < nI b := i_lt.mpr (by rw [nI_t (by omega), nI_t (by omega)]; omega)
theorem nI_nlt' {a b : Nat} (h : b ≤ a) (ha : a < 1000) : ¬ nI a < nI b := fun w => by
  have := i_lt.mp w
  rw [nI_t (by omega), nI_t (by omega)] at this
  omega
def td (σ : St) (w : Nat) : Int32 := if w = 0 then σ.1 0 5 else if w = 1 then σ.1 0 6 else if w = 2 then σ.1 0 7 else if w = 3 then σ.1 24 6 else if w = 4 then σ.1 24 7 else if w = 5 then σ.1 3 2 else σ.1 1 2
theorem x_toldV {w : Nat} (hw : w < 7) : f_X5_told (nI w) σ = some (td σ w, σ) := by
  have : w = 0 ∨ w = 1 ∨ w = 2 ∨ w = 3 ∨ w = 4 ∨ w = 5 ∨ w = 6 := by omega
  rcases this with e | e | e | e | e | e | e <;> (subst e; rfl)
theorem in06_nI {w : Nat} (hw : w < 7) : inR (nI w) 0 6 = true := by unfold inR; rw [nI_t (by omega)]; exact decide_eq_true (by omega)
noncomputable def ofV (N : Net) (l w : Nat) : Int32 := if w = 0 then nI (eA N l) else if w = 1 then nI (eB N l) else if w = 2 then iI (eS N l) else if w = 3 then iI (eM N l) else if w = 4 then bI (eO N l) else bI (brN N l)
noncomputable def fvN (N : Net) (l : Nat) (fl : Int32) : Int64 := Classical.epsilon (fun v : Int64 => PA (fl_ N (eO N) (xP N (eO N)) l) fl v)
theorem fvN_is {l : Nat} {fl : Int32} {v : Int64} (h : PA (fl_ N (eO N) (xP N (eO N)) l) fl v) : v = fvN N l fl := h.one (Classical.epsilon_spec (p := fun v : Int64 => PA (fl_ N (eO N) (xP N (eO N)) l) fl v) ⟨v, h⟩)
def mx (h v : Int64) : Int64 := ((31 : Int64) * h) + v
def hT (σ : St) : Nat → Int64
  | 0 => 1898
  | w + 1 => mx (hT σ w) (td σ w).toInt64
noncomputable def hB (N : Net) (h : Int64) : Nat → Int64
  | 0 => h
  | i + 1 => mx (mx (hB N h i) (iI (eQ N i)).toInt64) (nI (slP N (eO N) i)).toInt64
noncomputable def hO (N : Net) (l : Nat) (h : Int64) : Nat → Int64
  | 0 => h
  | w + 1 => mx (hO N l h w) (ofV N l w).toInt64
noncomputable def hL (N : Net) (h : Int64) : Nat → Int64
  | 0 => h
  | l + 1 => mx (mx (hO N l (hL N h l) 6) (fvN N l 0)) (fvN N l 1)
noncomputable def hC (N : Net) (h : Int64) : Nat → Int64
  | 0 => h
  | w + 1 => mx (hC N h w) (cntV N (nI w)).toInt64
noncomputable def dgV (N : Net) (σ : St) : Int64 := hC N (mx (hL N (hB N (hT σ 7) (nB N)) (nL N)) (wi (oP N (eO N))).toInt64) 6
theorem x_islandV (h : IN N σ 0 0 0) {i : Nat} (hi : i < nB N) : Ho (f_X5_island (nI i) σ) (fun q => Fr CS σ q.2 ∧ q.1 = nI (slP N (eO N) i)) := by
  have hN := h.NV
  have hn := hN.2.1
  unfold f_X5_island
  refine ho_be (x_hasBus h _) ?_
  try dsimp only
  rw [show inR (nI i) 0 ((nB N : Int) - 1) = true by unfold inR; rw [nI_t (by omega)]; exact decide_eq_true (by omega)]
  refine ho_f (by decide) (ho_bind (x_takeS hN h.CG (-1) (-1) (lv_all hN) (slP_is hN (eO N))) (fun τ hτ => ?_))
  obtain ⟨F1, h7, h8⟩ := hτ
  refine ho_chk (ib_nI (by omega) (by omega)) (ho_some ⟨F1.mono (by decide), ?_⟩)
  show τ.1 8 (nI i).toNatClampNeg = _
  rw [nI31 (by omega)]; exact h8 i hi
theorem inL {l : Nat} (hm : nL N ≤ 10) (hl : l < nL N) : inR (nI l) 0 ((nL N : Int) - 1) = true := by unfold inR; rw [nI_t (by omega)]; exact decide_eq_true (by omega)
theorem x_ofV (h : IN N σ 0 0 0) {l w : Nat} (hl : l < nL N) (hw : w < 6) : Ho (f_X5_of (nI l) (nI w) σ) (fun q => Fr CS σ q.2 ∧ q.1 = ofV N l w) := by
  have hN := h.NV
  have hm := hN.2.2.1
  unfold f_X5_of
  refine ho_be (x_hasLine h _) ?_
  try dsimp only
  rw [inL hm hl]
  refine ho_f (by decide) (ho_be (x_in5 _ σ) ?_)
  try dsimp only
  rw [show inR (nI w) 0 5 = true by unfold inR; rw [nI_t (by omega)]; exact decide_eq_true (by omega)]
  refine ho_f (by decide) ?_
  rw [nI31 (by omega), h.e26 hl, h.e27 hl, h.e28 hl, h.e29 hl, h.e30 hl]
  have ibl := ib_nI (k := l) (n := 10) (by omega) (by omega)
  have : w = 0 ∨ w = 1 ∨ w = 2 ∨ w = 3 ∨ w = 4 ∨ w = 5 := by omega
  rcases this with e | e | e | e | e | e
  · subst e
    exact ho_t (by decide) (ho_chk ibl (ho_some ⟨Fr.refl, rfl⟩))
  · subst e
    exact ho_f (by decide) (ho_t (by decide) (ho_chk ibl (ho_some ⟨Fr.refl, rfl⟩)))
  · subst e
    exact ho_f (by decide) (ho_f (by decide) (ho_t (by decide) (ho_chk ibl (ho_some ⟨Fr.refl, rfl⟩))))
  · subst e
    exact ho_f (by decide) (ho_f (by decide) (ho_f (by decide) (ho_t (by decide) (ho_chk ibl (ho_some ⟨Fr.refl, rfl⟩)))))
  · subst e
    refine ho_f (by decide) (ho_f (by decide) (ho_f (by decide) (ho_f (by decide) (ho_t (by decide) (ho_chk ibl (ho_if (fun c => ho_some ⟨Fr.refl, ?_⟩) (fun c => ho_some ⟨Fr.refl, ?_⟩)))))))
    · show (0 : Int32) = bI (eO N l)
      rw [c]
    · show (1 : Int32) = bI (eO N l)
      cases q : eO N l
      · rw [q] at c; exact absurd rfl c
      · rfl
  · subst e
    refine ho_f (by decide) (ho_f (by decide) (ho_f (by decide) (ho_f (by decide) (ho_f (by decide) (ho_bind (x_isBridge h hl (slP_is hN (lvW N l))) (fun q hq => ?_))))))
    have hq2 : q.1 = bI (brN N l) := hq.2
    rw [hq2]
    refine ho_if (fun c => ho_some ⟨hq.1, ?_⟩) (fun c => ho_some ⟨hq.1, ?_⟩)
    · show (0 : Int32) = bI (brN N l)
      rw [c]
    · show (1 : Int32) = bI (brN N l)
      cases q : brN N l
      · rw [q] at c; exact absurd rfl c
      · rfl
theorem x_flowV (h : IN N σ 0 0 0) {l : Nat} (hlt : l < nL N) {fl : Int32} (hf : inR fl 0 1 = true) : Ho (f_X5_flow (nI l) fl σ) (fun q => Fr CS σ q.2 ∧ q.1 = fvN N l fl) := by
  have hN := h.NV
  have hm := hN.2.2.1
  have hI := slP_is hN (eO N)
  have hx := xP_is hN (eO N)
  obtain ⟨y, -, hy⟩ := Sol.ex hI hN.ab hN.s0 (pQ (-1) (-1))
  have hb := fl_bd hN hx (fQ_bd hN) hI
  unfold f_X5_flow
  refine ho_be (x_hasLine h _) ?_
  try dsimp only
  rw [inL hm hlt]
  refine ho_f (by decide) (ho_be (x_flag fl σ) ?_)
  try dsimp only
  rw [hf]
  refine ho_f (by decide) ?_
  refine x_flows h (lv_all hN) hI hx hy (fun τ W F hτ hW W0 W1 hS h7 h8 _ => ?_)
  refine ho_chk (ib_nI (by omega) (by omega)) ?_
  rw [nI31 (by omega)]
  have cb := cell_bd (hS.2.2.1 l hlt) (hb l hlt) W0 W1
  refine ho_bind (x_partS (ρ := fl_ N (eO N) (xP N (eO N)) l) (by omega) (by rw [hS.1]; exact W0) (by rw [hS.1]; omega) (by rw [hS.1]; exact hS.2.2.1 l hlt) fl τ) (fun q hq => ho_some ⟨?_, fvN_is hq.2⟩)
  rw [hq.1]; exact F
theorem x_worstV (h : IN N σ 0 0 0) : Ho (f_X5_worst (-1) 0 σ) (fun q => Fr CS σ q.2 ∧ q.1 = (wi (oP N (eO N))).toInt64) := by
  have hN := h.NV
  have hI := slP_is hN (eO N)
  unfold f_X5_worst
  refine ho_jn (ho_t rfl (ho_be (x_in3 0 σ) ?_))
  try dsimp only
  refine ho_f (by decide) (ho_jn (ho_t rfl (ho_bind (x_takeS hN h.CG (-1) (-1) (lv_all hN) hI) (fun τ hτ => ?_))))
  obtain ⟨F1, h7, h8⟩ := hτ
  have F1' : Fr CS σ τ := F1.mono (by decide)
  refine ho_bind (x_load (h.q F1') hI h7 h8 (xP_is hN (eO N))) (fun υ hυ => ho_t rfl (ho_some ⟨F1'.trans (hυ.1.mono (by decide)), ?_⟩))
  show (υ.1 6 8).toInt64 = _
  rw [hυ.2.1]
  rfl
theorem x_digest (h : IN N σ 0 0 0) : Ho (f_X5_digest σ) (fun q => Fr CS σ q.2 ∧ q.1 = dgV N σ) := by
  have hN := h.NV
  have hm := hN.2.2.1
  have hn := hN.2.1
  -- counts
  have l5 : ∀ (h0 : Int64) (d w fuel : Nat) (τ : St), w + d = 6 → d < fuel → Fr CS σ τ → Ho (f_X5_digest_156 (fun (x55 : Int64) (σ56 : St) => some (x55, σ56)) fuel (hC N h0 w) (nI w) τ) (fun q => Fr CS σ q.2 ∧ q.1 = hC N h0 6) := by
    intro h0 d
    induction d with
    | zero =>
      intro w fuel τ hd hf hF
      obtain ⟨fuel, rfl⟩ : ∃ f, fuel = f + 1 := ⟨fuel - 1, by omega⟩
      have e : w = 6 := by omega
      subst e
      rw [f_X5_digest_156]
      exact ho_t (nI_lt' (a := 5) (by omega) (by omega)) (ho_some ⟨hF, rfl⟩)
    | succ d ih =>
      intro w fuel τ hd hf hF
      obtain ⟨fuel, rfl⟩ : ∃ f, fuel = f + 1 := ⟨fuel - 1, by omega⟩
      rw [f_X5_digest_156]
      refine ho_f (nI_nlt' (a := 5) (by omega) (by omega)) (ho_bind (x_count (h.q hF) (in06_nI (by omega))) (fun q hq => ho_be rfl ?_))
      try dsimp only
      rw [hq.2, nI_1 w]
      exact ih (w + 1) fuel q.2 (by omega) (by omega) (hF.trans hq.1)
  -- lines
  have l4 : ∀ (h0 : Int64) (l : Nat), l < nL N → ∀ {K : Int64 → St → Option (Int64 × St)} {Q : Int64 × St → Prop}, (∀ τ, Fr CS σ τ → Ho (K (hO N l h0 6) τ) Q) → ∀ (d w fuel : Nat) (τ : St), w + d = 6 → d < fuel → Fr CS σ τ → Ho (f_X5_digest_90 (nI l) K fuel (hO N l h0 w) (nI w) τ) Q := by
    intro h0 l hl K Q hK d
    induction d with
    | zero =>
      intro w fuel τ hd hf hF
      obtain ⟨fuel, rfl⟩ : ∃ f, fuel = f + 1 := ⟨fuel - 1, by omega⟩
      have e : w = 6 := by omega
      subst e
      rw [f_X5_digest_90]
      exact ho_t (nI_lt' (a := 5) (by omega) (by omega)) (hK τ hF)
    | succ d ih =>
      intro w fuel τ hd hf hF
      obtain ⟨fuel, rfl⟩ : ∃ f, fuel = f + 1 := ⟨fuel - 1, by omega⟩
      rw [f_X5_digest_90]
      refine ho_f (nI_nlt' (a := 5) (by omega) (by omega)) (ho_bind (x_ofV (h.q hF) hl (show w < 6 by omega)) (fun q hq => ho_be rfl ?_))
      try dsimp only
      rw [hq.2, nI_1 w]
      exact ih (w + 1) fuel q.2 (by omega) (by omega) (hF.trans hq.1)
  have l3 : ∀ (h0 : Int64) {K : Int64 → St → Option (Int64 × St)} {Q : Int64 × St → Prop}, (∀ τ, Fr CS σ τ → Ho (K (hL N h0 (nL N)) τ) Q) → ∀ (d l fuel : Nat) (τ : St), l + d = nL N → d < fuel → Fr CS σ τ → Ho (f_X5_digest_76 K fuel (hL N h0 l) (nI l) τ) Q := by
    intro h0 K Q hK d
    induction d with
    | zero =>
      intro l fuel τ hd hf hF
      obtain ⟨fuel, rfl⟩ : ∃ f, fuel = f + 1 := ⟨fuel - 1, by omega⟩
      have e : l = nL N := by omega
      subst e
      rw [f_X5_digest_76, (h.q hF).CG.2.1]
      exact ho_t (nI_ge' (Nat.le_refl _) (by omega)) (hK τ hF)
    | succ d ih =>
      intro l fuel τ hd hf hF
      obtain ⟨fuel, rfl⟩ : ∃ f, fuel = f + 1 := ⟨fuel - 1, by omega⟩
      have hl : l < nL N := by omega
      rw [f_X5_digest_76, (h.q hF).CG.2.1]
      refine ho_f (nI_nge' (by omega) (by omega)) (l4 (hL N h0 l) l hl (fun υ hυ => ?_) 6 0 1000 τ (by omega) (by omega) hF)
      refine ho_bind (x_flowV (h.q hυ) hl (by decide)) (fun q hq => ho_be rfl ?_)
      try dsimp only
      refine ho_bind (x_flowV (h.q (hυ.trans hq.1)) hl (by decide)) (fun r hr => ho_be rfl ?_)
      try dsimp only
      rw [hq.2, hr.2, nI_1 l]
      exact ih (l + 1) fuel r.2 (by omega) (by omega) ((hυ.trans hq.1).trans hr.1)
  have l2 : ∀ (h0 : Int64) {K : Int64 → St → Option (Int64 × St)} {Q : Int64 × St → Prop}, (∀ τ, Fr CS σ τ → Ho (K (hB N h0 (nB N)) τ) Q) → ∀ (d i fuel : Nat) (τ : St), i + d = nB N → d < fuel → Fr CS σ τ → Ho (f_X5_digest_31 K fuel (hB N h0 i) (nI i) τ) Q := by
    intro h0 K Q hK d
    induction d with
    | zero =>
      intro i fuel τ hd hf hF
      obtain ⟨fuel, rfl⟩ : ∃ f, fuel = f + 1 := ⟨fuel - 1, by omega⟩
      have e : i = nB N := by omega
      subst e
      rw [f_X5_digest_31, (h.q hF).CG.1]
      exact ho_t (nI_ge' (Nat.le_refl _) (by omega)) (hK τ hF)
    | succ d ih =>
      intro i fuel τ hd hf hF
      obtain ⟨fuel, rfl⟩ : ∃ f, fuel = f + 1 := ⟨fuel - 1, by omega⟩
      rw [f_X5_digest_31, (h.q hF).CG.1, nI31 (k := i) (by omega), (h.q hF).e25 (i := i) (by omega)]
      refine ho_f (nI_nge' (by omega) (by omega)) (ho_chk (ib_nI (by omega) (by omega)) (ho_be rfl ?_))
      try dsimp only
      refine ho_bind (x_islandV (h.q hF) (show i < nB N by omega)) (fun q hq => ho_be rfl ?_)
      try dsimp only
      rw [hq.2, nI_1 i]
      exact ih (i + 1) fuel q.2 (by omega) (by omega) (hF.trans hq.1)
  have l1 : ∀ {K : Int64 → St → Option (Int64 × St)} {Q : Int64 × St → Prop}, Ho (K (hT σ 7) σ) Q → ∀ (d w fuel : Nat), w + d = 7 → d < fuel → Ho (f_X5_digest_6 K fuel (hT σ w) (nI w) σ) Q := by
    intro K Q hK d
    induction d with
    | zero =>
      intro w fuel hd hf
      obtain ⟨fuel, rfl⟩ : ∃ f, fuel = f + 1 := ⟨fuel - 1, by omega⟩
      have e : w = 7 := by omega
      subst e
      rw [f_X5_digest_6]
      exact ho_t (nI_lt' (a := 6) (by omega) (by omega)) hK
    | succ d ih =>
      intro w fuel hd hf
      obtain ⟨fuel, rfl⟩ : ∃ f, fuel = f + 1 := ⟨fuel - 1, by omega⟩
      rw [f_X5_digest_6]
      refine ho_f (nI_nlt' (a := 6) (by omega) (by omega)) (ho_be (x_toldV (show w < 7 by omega)) (ho_be rfl ?_))
      try dsimp only
      rw [nI_1 w]
      exact ih (w + 1) fuel (by omega) (by omega)
  unfold f_X5_digest dgV
  refine l1 ?_ 7 0 1000 (by omega) (by omega)
  refine l2 (hT σ 7) (fun τ2 F2 => ?_) (nB N) 0 1000 σ (by omega) (by omega) Fr.refl
  refine l3 (hB N (hT σ 7) (nB N)) (fun τ3 F3 => ?_) (nL N) 0 1000 τ2 (by omega) (by omega) F2
  refine ho_bind (x_worstV (h.q F3)) (fun q hq => ho_be rfl ?_)
  try dsimp only
  rw [hq.2]
  exact l5 _ 6 0 1000 q.2 (by omega) (by omega) (F3.trans hq.1)
/-- the reference's digest, the class having answered from σ -/
theorem y_lineV (hN : NV N) (hG : MG (σ.1 88) N) {l w : Nat} (hl : l < nL N) (hw : w < 5) : f_X6_lineAt (nI l) (nI w) σ = some (ofV N l w, σ) := by
  have hm := hN.2.2.1
  rw [y_lineAt (by omega) hw]
  obtain ⟨a, b, c, d, e⟩ := hG.2.2.2 l hl
  have : w = 0 ∨ w = 1 ∨ w = 2 ∨ w = 3 ∨ w = 4 := by omega
  rcases this with q | q | q | q | q
  · subst q; rw [Nat.add_zero, a]; rfl
  · subst q; rw [b]; rfl
  · subst q; rw [c]; rfl
  · subst q; rw [d]; rfl
  · subst q; rw [e]; rfl
theorem y_digest {τ : St} (h : IN N σ 0 0 0) (ht : IN N τ 0 0 0) (h0 : τ.1 0 = σ.1 0) (h1 : τ.1 1 = σ.1 1) (h3 : τ.1 3 2 = σ.1 3 2) : Ho (f_X6_digest τ) (fun q => QM τ q.2 ∧ q.1 = dgV N σ) := by
  have hN := h.NV
  have hm := hN.2.2.1
  have hn := hN.2.1
  have hI := slP_is hN (eO N)
  have hx := xP_is hN (eO N)
  have hb := fl_bd hN hx (fQ_bd hN) hI
  have l5 : ∀ (h0 : Int64) (d w fuel : Nat) (υ : St), w + d = 6 → d < fuel → QM τ υ → Ho (f_X6_digest_226 (fun (x68 : Int64) (σ69 : St) => some (x68, σ69)) fuel (hC N h0 w) (nI w) υ) (fun q => QM τ q.2 ∧ q.1 = hC N h0 6) := by
    intro h0 d
    induction d with
    | zero =>
      intro w fuel υ hd hf hF
      obtain ⟨fuel, rfl⟩ : ∃ f, fuel = f + 1 := ⟨fuel - 1, by omega⟩
      have e : w = 6 := by omega
      subst e
      rw [f_X6_digest_226]
      exact ho_t (nI_ge' (a := 6) (by omega) (by omega)) (ho_some ⟨hF, rfl⟩)
    | succ d ih =>
      intro w fuel υ hd hf hF
      obtain ⟨fuel, rfl⟩ : ∃ f, fuel = f + 1 := ⟨fuel - 1, by omega⟩
      rw [f_X6_digest_226]
      refine ho_f (nI_nge' (a := 6) (by omega) (by omega)) (ho_bind (y_countOf (ht.m hF) (in06_nI (by omega))) (fun q hq => ho_nm ?_))
      rw [hq.2, nI_1 w]
      exact ih (w + 1) fuel q.2 (by omega) (by omega) (hF.trans hq.1)
  have l4 : ∀ (h0 : Int64) (l : Nat), l < nL N → ∀ {K : Int64 → St → Option (Int64 × St)} {Q : Int64 × St → Prop}, (∀ υ, QM τ υ → Ho (K (hO N l h0 6) υ) Q) → ∀ (d w fuel : Nat) (υ : St), w + d = 6 → d < fuel → QM τ υ → Ho (f_X6_digest_102 (nI l) K fuel (hO N l h0 w) (nI w) υ) Q := by
    intro h0 l hl K Q hK d
    induction d with
    | zero =>
      intro w fuel υ hd hf hF
      obtain ⟨fuel, rfl⟩ : ∃ f, fuel = f + 1 := ⟨fuel - 1, by omega⟩
      have e : w = 6 := by omega
      subst e
      rw [f_X6_digest_102]
      exact ho_t (nI_ge' (a := 6) (by omega) (by omega)) (hK υ hF)
    | succ d ih =>
      intro w fuel υ hd hf hF
      obtain ⟨fuel, rfl⟩ : ∃ f, fuel = f + 1 := ⟨fuel - 1, by omega⟩
      have hυ := ht.m hF
      rw [f_X6_digest_102, nI_1 w]
      refine ho_f (nI_nge' (a := 6) (by omega) (by omega)) ?_
      by_cases c : w = 5
      · subst c
        refine ho_t (nI_ge' (a := 5) (by omega) (by omega)) (ho_bind (y_isBridge hυ hl (slP_is hN (lvW N l))) (fun q hq => ?_))
        obtain ⟨F1, q1, -⟩ := hq
        have q1' : q.1 = bI (brN N l) := q1
        have e6 : hO N l h0 (5 + 1) = mx (hO N l h0 5) (bI (brN N l)).toInt64 := rfl
        rw [q1']
        have nx := ih (5 + 1) fuel q.2 (by omega) (by omega) (hF.trans F1)
        refine ho_if (fun z => ho_nm ?_) (fun z => ho_nm ?_)
        · rw [e6, z] at nx; exact nx
        · have : bI (brN N l) = 1 := by
            cases q : brN N l
            · rw [q] at z; exact absurd rfl z
            · rfl
          rw [e6, this] at nx; exact nx
      · refine ho_f (nI_nge' (a := 5) (by omega) (by omega)) (ho_be (y_lineV hN hυ.MG hl (show w < 5 by omega)) (ho_nm ?_))
        exact ih (w + 1) fuel υ (by omega) (by omega) hF
  have l3 : ∀ (h0 : Int64) {K : Int64 → St → Option (Int64 × St)} {Q : Int64 × St → Prop}, (∀ υ, QM τ υ → Ho (K (hL N h0 (nL N)) υ) Q) → ∀ (d l fuel : Nat) (υ : St), l + d = nL N → d < fuel → QM τ υ → Ho (f_X6_digest_89 K fuel (hL N h0 l) (nI l) υ) Q := by
    intro h0 K Q hK d
    induction d with
    | zero =>
      intro l fuel υ hd hf hF
      obtain ⟨fuel, rfl⟩ : ∃ f, fuel = f + 1 := ⟨fuel - 1, by omega⟩
      have e : l = nL N := by omega
      subst e
      rw [f_X6_digest_89, show (1 : Int32).toNatClampNeg = 1 from rfl, (ht.m hF).MG.2.1]
      exact ho_t (nI_ge' (Nat.le_refl _) (by omega)) (hK υ hF)
    | succ d ih =>
      intro l fuel υ hd hf hF
      obtain ⟨fuel, rfl⟩ : ∃ f, fuel = f + 1 := ⟨fuel - 1, by omega⟩
      have hl : l < nL N := by omega
      rw [f_X6_digest_89, show (1 : Int32).toNatClampNeg = 1 from rfl, (ht.m hF).MG.2.1]
      refine ho_f (nI_nge' (by omega) (by omega)) (l4 (hL N h0 l) l hl (fun α hα => ?_) 6 0 1000 υ (by omega) (by omega) hF)
      have hα2 := ht.m hα
      refine ho_bind (y_asTold hN hα2.MG) (fun τ1 h1 => ?_)
      obtain ⟨F1, h93⟩ := h1
      have Q1 : QM α τ1 := F1.QM (by decide) (by decide)
      refine ho_bind (y_inSet hN (hα2.m Q1).MG) (fun s hs => ?_)
      obtain ⟨s1, s2⟩ := hs
      rw [s1]
      refine ho_bind (y_told hα2 hI hx (s2.all hN) Q1 h93) (fun β hβ => ?_)
      obtain ⟨Q2, hβ2, h94, hJ⟩ := hβ
      refine ho_bind (y_inSet hN hβ2.MG) (fun s' hs' => ?_)
      obtain ⟨s1', s2'⟩ := hs'
      rw [s1']
      refine ho_bind (y_flowTold hN hβ2.MG (s2'.all hN) hI hJ hb hl 0) (fun r hr => ho_nm ?_)
      rw [hr.1]
      refine ho_bind (y_inSet hN hβ2.MG) (fun s'' hs'' => ?_)
      obtain ⟨s1'', s2''⟩ := hs''
      rw [s1'']
      refine ho_bind (y_flowTold hN hβ2.MG (s2''.all hN) hI hJ hb hl 1) (fun t ht2 => ho_nm ?_)
      rw [ht2.1, nI_1 l, fvN_is hr.2, fvN_is ht2.2]
      exact ih (l + 1) fuel β (by omega) (by omega) (hα.trans Q2)
  have l2 : ∀ (h0 : Int64) {K : Int64 → St → Option (Int64 × St)} {Q : Int64 × St → Prop} {υ : St}, QM τ υ → (∀ i, i < nB N → υ.1 94 i = nI (slP N (eO N) i)) → Ho (K (hB N h0 (nB N)) υ) Q → ∀ (d i fuel : Nat), i + d = nB N → d < fuel → Ho (f_X6_digest_41 K fuel (hB N h0 i) (nI i) υ) Q := by
    intro h0 K Q υ hF h94 hK d
    have hυ := ht.m hF
    induction d with
    | zero =>
      intro i fuel hd hf
      obtain ⟨fuel, rfl⟩ : ∃ f, fuel = f + 1 := ⟨fuel - 1, by omega⟩
      have e : i = nB N := by omega
      subst e
      rw [f_X6_digest_41, show (0 : Int32).toNatClampNeg = 0 from rfl, hυ.MG.1]
      exact ho_t (nI_ge' (Nat.le_refl _) (by omega)) hK
    | succ d ih =>
      intro i fuel hd hf
      obtain ⟨fuel, rfl⟩ : ∃ f, fuel = f + 1 := ⟨fuel - 1, by omega⟩
      rw [f_X6_digest_41, show (0 : Int32).toNatClampNeg = 0 from rfl, hυ.MG.1, ix2, nI31 (k := 2 + i) (by omega), nI31 (k := i) (by omega), hυ.MG.2.2.1 i (by omega), h94 i (by omega), nI_1 i]
      exact ho_f (nI_nge' (by omega) (by omega)) (ho_chk (ib_nI (by omega) (by omega)) (ho_nm (ho_chk (ib_nI (by omega) (by omega)) (ho_nm (ih (i + 1) fuel (by omega) (by omega))))))
  have l1 : ∀ {K : Int64 → St → Option (Int64 × St)} {Q : Int64 × St → Prop}, Ho (K (hT σ 7) τ) Q → ∀ (d w fuel : Nat), w + d = 7 → d < fuel → Ho (f_X6_digest_6 K fuel (hT σ w) (nI w) τ) Q := by
    intro K Q hK d
    induction d with
    | zero =>
      intro w fuel hd hf
      obtain ⟨fuel, rfl⟩ : ∃ f, fuel = f + 1 := ⟨fuel - 1, by omega⟩
      have e : w = 7 := by omega
      subst e
      rw [f_X6_digest_6]
      exact ho_t (nI_ge' (a := 7) (by omega) (by omega)) hK
    | succ d ih =>
      intro w fuel hd hf
      obtain ⟨fuel, rfl⟩ : ∃ f, fuel = f + 1 := ⟨fuel - 1, by omega⟩
      have e : f_X6_toldOf (nI w) τ = some (td σ w, τ) := by rw [y_toldOf h (in06_nI (by omega)) ht h0 h1 h3, x_toldV (by omega)]; rfl
      rw [f_X6_digest_6, nI_1 w]
      exact ho_f (nI_nge' (a := 7) (by omega) (by omega)) (ho_be e (ho_nm (ih (w + 1) fuel (by omega) (by omega))))
  unfold f_X6_digest dgV
  refine l1 ?_ 7 0 1000 (by omega) (by omega)
  refine ho_bind (y_inSet hN ht.MG) (fun s hs => ?_)
  obtain ⟨s1, s2⟩ := hs
  rw [s1]
  refine ho_bind (y_partsS hN ht.MG (s2.all hN) hI) (fun υ hυ => ?_)
  have Q0 : QM τ υ := hυ.1.QM (by decide) (by decide)
  refine l2 (hT σ 7) Q0 hυ.2 ?_ (nB N) 0 1000 (by omega) (by omega)
  refine l3 (hB N (hT σ 7) (nB N)) (fun τ3 F3 => ?_) (nL N) 0 1000 υ (by omega) (by omega) Q0
  refine ho_bind (y_inSet hN (ht.m F3).MG) (fun s' hs' => ?_)
  obtain ⟨s1', s2'⟩ := hs'
  rw [s1']
  refine ho_bind (y_judges (ht.m F3) hI (s2'.all hN) hx) (fun ω hω => ho_nm ?_)
  obtain ⟨F4, k4, j4⟩ := hω
  rw [j4.1]
  exact l5 _ 6 0 1000 ω (by omega) (by omega) (F3.trans (Jd_QM F4 k4))
theorem op_digest (h : IN N σ 0 0 0) : OE N (f_X5_digest σ) f_X6_digest := by
  unfold OE
  refine ho_mono (x_digest h) (fun q hq => ?_)
  have ht := h.q hq.1
  refine ho_mono (y_digest h ht (hq.1.i (by decide)) (hq.1.i (by decide)) (by rw [hq.1.i (i := 3) (by decide)])) (fun r hr => ⟨by rw [hr.2, hq.2], N, ht.m hr.1⟩)
end Dg
