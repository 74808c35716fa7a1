/-! count -/
section Ct
variable {N : Net} {σ : St}
def icn (sl : Nat → Nat) : Nat → Nat
  | 0 => 0
  | i + 1 => icn sl i + (if sl i = i then 1 else 0)
theorem icn_le (sl : Nat → Nat) : ∀ i, icn sl i ≤ i
  | 0 => Nat.le_refl 0
  | i + 1 => by
    have := icn_le sl i
    rw [icn]
    split <;> omega
/-- is line l a bridge -/
noncomputable def brN (N : Net) (l : Nat) : Bool := eO N l && !decide (slP N (lvW N l) (eA N l) = slP N (lvW N l) (eB N l))
noncomputable def bcn (N : Net) : Nat → Nat
  | 0 => 0
  | l + 1 => bcn N l + (if brN N l = true then 1 else 0)
theorem bcn_le (N : Net) : ∀ i, bcn N i ≤ i
  | 0 => Nat.le_refl 0
  | i + 1 => by
    have := bcn_le N i
    rw [bcn]
    split <;> omega
/-- what count answers -/
noncomputable def cntV (N : Net) (a : Int32) : Int32 :=
  if a = 0 then nI (icn (slP N (eO N)) (nB N)) else if a = 1 then nI (nL N) else if a = 2 then nI (svN N (nL N)) else if a = 3 then nI (bcn N (nL N)) else if a = 4 then nI (cP N (eO N)) else if a = 5 then nI (ovr (RLs N (nL N)).2 (RLs N (nL N)).1) else nI (ovr (RP N (nL N)).2 (RP N (nL N)).1)
theorem cv0 {a : Int32} (c : a = 0) : cntV N a = nI (icn (slP N (eO N)) (nB N)) := by subst c; unfold cntV; rw [if_pos rfl]
theorem cv1 {a : Int32} (c : a = 1) : cntV N a = nI (nL N) := by subst c; unfold cntV; rw [if_neg (by decide), if_pos rfl]
theorem cv2 {a : Int32} (c : a = 2) : cntV N a = nI (svN N (nL N)) := by subst c; unfold cntV; rw [if_neg (by decide), if_neg (by decide), if_pos rfl]
theorem cv3 {a : Int32} (c : a = 3) : cntV N a = nI (bcn N (nL N)) := by subst c; unfold cntV; rw [if_neg (by decide), if_neg (by decide), if_neg (by decide), if_pos rfl]
theorem cv4 {a : Int32} (c : a = 4) : cntV N a = nI (cP N (eO N)) := by subst c; unfold cntV; rw [if_neg (by decide), if_neg (by decide), if_neg (by decide), if_neg (by decide), if_pos rfl]
theorem cv5 {a : Int32} (c : a = 5) : cntV N a = nI (ovr (RLs N (nL N)).2 (RLs N (nL N)).1) := by subst c; unfold cntV; rw [if_neg (by decide), if_neg (by decide), if_neg (by decide), if_neg (by decide), if_neg (by decide), if_pos rfl]
theorem cv6 {a : Int32} (c : a = 6) : cntV N a = nI (ovr (RP N (nL N)).2 (RP N (nL N)).1) := by subst c; unfold cntV; rw [if_neg (by decide), if_neg (by decide), if_neg (by decide), if_neg (by decide), if_neg (by decide), if_neg (by decide)]
theorem x_islands {sl : Nat → Nat} (h : IN N σ 0 0 0) (hs : ∀ i, i < nB N → sl i < nB N) (h8 : ∀ i, i < nB N → σ.1 8 i = nI (sl i)) : f_X4_islands σ = some (nI (icn sl (nB N)), σ) := by
  have hN := h.NV
  have hn := hN.2.1
  have loop : ∀ (d l fuel : Nat), l + d = nB N → d < fuel → Ho (f_X4_islands_4 (fun (x9 : Int32) (σ10 : St) => some (x9, σ10)) fuel (nI (icn sl l)) (nI l) σ) (fun q => q = (nI (icn sl (nB N)), σ)) := by
    intro d
    induction d with
    | zero =>
      intro l fuel hd hf
      obtain ⟨fuel, rfl⟩ : ∃ f, fuel = f + 1 := ⟨fuel - 1, by omega⟩
      have e : l = nB N := by omega
      subst e
      rw [f_X4_islands_4, h.CG.1]
      exact ho_t (nI_ge' (Nat.le_refl _) (by omega)) (ho_some rfl)
    | succ d ih =>
      intro l fuel hd hf
      obtain ⟨fuel, rfl⟩ : ∃ f, fuel = f + 1 := ⟨fuel - 1, by omega⟩
      have hlt : l < nB N := by omega
      have sj := hs l hlt
      have q := ih (l + 1) fuel (by omega) (by omega)
      rw [f_X4_islands_4, h.CG.1, nI31 (k := l) (by omega), h8 l hlt]
      refine ho_f (nI_nge' (by omega) (by omega)) (ho_chk (ib_nI (by omega) (by omega)) (ho_if (fun c => ?_) (fun c => ?_)))
      · rw [icn, if_pos (nI_inj (by omega) (by omega) c)] at q
        rw [nI_1, nI_1]
        exact q
      · rw [icn, if_neg (fun e => c (by rw [e]))] at q
        rw [nI_1]
        exact q
  unfold f_X4_islands
  obtain ⟨a, ha, rfl⟩ := loop (nB N) 0 1000 (by omega) (by omega)
  exact ha
theorem x_bridges (h : IN N σ 0 0 0) : Ho (f_X5_bridges σ) (fun q => Fr CS σ q.2 ∧ q.1 = nI (bcn N (nL N))) := by
  have hN := h.NV
  have hm := hN.2.2.1
  have loop : ∀ (d l fuel : Nat) (τ : St), l + d = nL N → d < fuel → Fr CS σ τ → Ho (f_X5_bridges_4 (fun (x9 : Int32) (σ10 : St) => some (x9, σ10)) fuel (nI (bcn N l)) (nI l) τ) (fun q => Fr CS σ q.2 ∧ q.1 = nI (bcn N (nL N))) := by
    intro d
    induction d with
    | zero =>
      intro l fuel τ hd hf hF
      obtain ⟨fuel, rfl⟩ : ∃ f, fuel = f + 1 := ⟨fuel - 1, by omega⟩
      have e : l = nL N := by omega
      subst e
      rw [f_X5_bridges_4, (h.q hF).CG.2.1]
      exact ho_t (nI_ge' (Nat.le_refl _) (by omega)) (ho_some ⟨hF, rfl⟩)
    | succ d ih =>
      intro l fuel τ hd hf hF
      obtain ⟨fuel, rfl⟩ : ∃ f, fuel = f + 1 := ⟨fuel - 1, by omega⟩
      have hlt : l < nL N := by omega
      rw [f_X5_bridges_4, (h.q hF).CG.2.1]
      refine ho_f (nI_nge' (by omega) (by omega)) (ho_bind (x_isBridge (h.q hF) hlt (slP_is hN (lvW N l))) (fun w hw => ?_))
      obtain ⟨F1, w1⟩ := hw
      have q := ih (l + 1) fuel w.2 (by omega) (by omega) (hF.trans F1)
      rw [w1]
      by_cases c : brN N l = true
      · have c' := c
        unfold brN at c'
        rw [c']
        rw [bcn, if_pos c] at q
        refine ho_f (by decide) ?_
        rw [nI_1, nI_1]
        exact q
      · have c' := bf_of c
        unfold brN at c'
        rw [c']
        rw [bcn, if_neg c] at q
        refine ho_t rfl ?_
        rw [nI_1]
        exact q
  unfold f_X5_bridges
  exact loop (nL N) 0 1000 σ (by omega) (by omega) Fr.refl
theorem x_overloaded {two : Bool} {s : Rs} (hR : RK two σ s) (hs : s.1 ≤ 45) : f_X2_overloaded σ = some (nI (ovr s.2 s.1), σ) := by
  have loop : ∀ (d l fuel : Nat), l + d = s.1 → d < fuel → Ho (f_X2_overloaded_4 (fun (x9 : Int32) (σ10 : St) => some (x9, σ10)) fuel (nI (ovr s.2 l)) (nI l) σ) (fun q => q = (nI (ovr s.2 s.1), σ)) := by
    intro d
    induction d with
    | zero =>
      intro l fuel hd hf
      obtain ⟨fuel, rfl⟩ : ∃ f, fuel = f + 1 := ⟨fuel - 1, by omega⟩
      have e : l = s.1 := by omega
      rw [f_X2_overloaded_4, hR.1, e]
      exact ho_t (nI_ge' (Nat.le_refl _) (by omega)) (ho_some rfl)
    | succ d ih =>
      intro l fuel hd hf
      obtain ⟨fuel, rfl⟩ : ∃ f, fuel = f + 1 := ⟨fuel - 1, by omega⟩
      have hlt : l < s.1 := by omega
      obtain ⟨-, -, z3⟩ := hR.2 l hlt
      have q := ih (l + 1) fuel (by omega) (by omega)
      have cm := cmpX1 z3.1 z3.2.2.2.1
      rw [f_X2_overloaded_4, hR.1, nI31 (k := l) (by omega)]
      refine ho_f (nI_nge' (by omega) (by omega)) (ho_chk (ib_nI (by omega) (by omega)) (ho_if (fun c => ?_) (fun c => ?_)))
      · rw [ovr, if_neg (by have := cm.mp c; grind)] at q
        rw [nI_1]
        exact q
      · rw [ovr, if_pos (by have : ¬ (s.2 l).2.2 ≤ 1 := fun w => c (cm.mpr w); grind)] at q
        rw [nI_1, nI_1]
        exact q
  unfold f_X2_overloaded
  obtain ⟨a, ha, rfl⟩ := loop s.1 0 1000 (by omega) (by omega)
  exact ha
theorem in06 {a : Int32} (h : inR a 0 6 = true) : a = 0 ∨ a = 1 ∨ a = 2 ∨ a = 3 ∨ a = 4 ∨ a = 5 ∨ a = 6 := by
  obtain ⟨k, hk, rfl⟩ := inR_nI (n := 7) (a := a) h
  have : k = 0 ∨ k = 1 ∨ k = 2 ∨ k = 3 ∨ k = 4 ∨ k = 5 ∨ k = 6 := by omega
  rcases this with w | w | w | w | w | w | w <;> (subst w; decide)
theorem x_count (h : IN N σ 0 0 0) {a : Int32} (ha : inR a 0 6 = true) : Ho (f_X5_count a σ) (fun q => Fr CS σ q.2 ∧ q.1 = cntV N a) := by
  have hN := h.NV
  have hm := hN.2.2.1
  have hI := slP_is hN (eO N)
  unfold f_X5_count
  by_cases c0 : a = 0
  · rw [cv0 c0]
    refine ho_t c0 (ho_bind (x_takeS hN h.CG (-1) (-1) (lv_all hN) hI) (fun τ hτ => ?_))
    obtain ⟨F1, h7, h8⟩ := hτ
    have F1' : Fr CS σ τ := F1.mono (by decide)
    exact ho_be (x_islands (h.q F1') (fun i hi => hI.lt hi) h8) (ho_some ⟨F1', rfl⟩)
  refine ho_f c0 ?_
  by_cases c1 : a = 1
  · rw [cv1 c1]
    exact ho_t c1 (ho_some ⟨Fr.refl, h.CG.2.1⟩)
  refine ho_f c1 ?_
  by_cases c2 : a = 2
  · rw [cv2 c2]
    exact ho_t c2 (ho_be (x_serving h) (ho_some ⟨Fr.refl, rfl⟩))
  refine ho_f c2 ?_
  by_cases c3 : a = 3
  · rw [cv3 c3]
    exact ho_t c3 (ho_bind (x_bridges h) (fun q hq => ho_some hq))
  refine ho_f c3 ?_
  by_cases c4 : a = 4
  · rw [cv4 c4]
    refine ho_t c4 (ho_bind (x_takeS hN h.CG (-1) (-1) (lv_all hN) hI) (fun τ hτ => ?_))
    obtain ⟨F1, h7, h8⟩ := hτ
    have F1' : Fr CS σ τ := F1.mono (by decide)
    refine ho_bind (x_load (h.q F1') hI h7 h8 (xP_is hN (eO N))) (fun υ hυ => ho_some ⟨F1'.trans (hυ.1.mono (by decide)), hυ.2.2.2⟩)
  refine ho_f c4 ?_
  by_cases c5 : a = 5
  · rw [cv5 c5]
    refine ho_t c5 (ho_bind (x_rankLines h) (fun τ hτ => ?_))
    exact ho_be (x_overloaded hτ.2 (by rw [RLs_n]; have := svN_le N (nL N); omega)) (ho_some ⟨hτ.1, rfl⟩)
  refine ho_f c5 ?_
  have c6 : a = 6 := by
    rcases in06 ha with w | w | w | w | w | w | w
    · exact absurd w c0
    · exact absurd w c1
    · exact absurd w c2
    · exact absurd w c3
    · exact absurd w c4
    · exact absurd w c5
    · exact w
  rw [cv6 c6]
  refine ho_t c6 (ho_bind (x_rankPairs h) (fun τ hτ => ?_))
  exact ho_be (x_overloaded hτ.2 (RP_n2 hN).2) (ho_some ⟨hτ.1, rfl⟩)
theorem y_c46 {sl : Nat → Nat} (h : IN N σ 0 0 0) (hs : ∀ i, i < nB N → sl i < nB N) (h94 : ∀ i, i < nB N → σ.1 94 i = nI (sl i)) : f_X6_countOf_46 (fun (x14 : Int32) (σ15 : St) => some (x14, σ15)) 1000 (0 : Int32) (0 : Int32) σ = some (nI (icn sl (nB N)), σ) := by
  have hN := h.NV
  have hn := hN.2.1
  have loop : ∀ (d l fuel : Nat), l + d = nB N → d < fuel → Ho (f_X6_countOf_46 (fun (x14 : Int32) (σ15 : St) => some (x14, σ15)) fuel (nI (icn sl l)) (nI l) σ) (fun q => q = (nI (icn sl (nB N)), σ)) := by
    intro d
    induction d with
    | zero =>
      intro l fuel hd hf
      obtain ⟨fuel, rfl⟩ : ∃ f, fuel = f + 1 := ⟨fuel - 1, by omega⟩
      have e : l = nB N := by omega
      subst e
      rw [f_X6_countOf_46, show (0 : Int32).toNatClampNeg = 0 from rfl, h.MG.1]
      exact ho_t (nI_ge' (Nat.le_refl _) (by omega)) (ho_some rfl)
    | succ d ih =>
      intro l fuel hd hf
      obtain ⟨fuel, rfl⟩ : ∃ f, fuel = f + 1 := ⟨fuel - 1, by omega⟩
      have hlt : l < nB N := by omega
      have sj := hs l hlt
      have q := ih (l + 1) fuel (by omega) (by omega)
      rw [f_X6_countOf_46, show (0 : Int32).toNatClampNeg = 0 from rfl, h.MG.1, nI31 (k := l) (by omega), h94 l hlt]
      refine ho_f (nI_nge' (by omega) (by omega)) (ho_chk (ib_nI (by omega) (by omega)) (ho_if (fun c => ho_nm ?_) (fun c => ho_nm ?_)))
      · rw [icn, if_pos (nI_inj (by omega) (by omega) c)] at q
        rw [show nI (icn sl l) + (1 : Int32) = nI (icn sl l + 1) from nI_1 _, nI_1]
        exact q
      · rw [icn, if_neg (fun e => c (by rw [e]))] at q
        rw [show nI (icn sl l) + (0 : Int32) = nI (icn sl l + 0) from nI_add _ 0, nI_1]
        exact q
  obtain ⟨a, ha, rfl⟩ := loop (nB N) 0 1000 (by omega) (by omega)
  exact ha
theorem y_lineAt4 (hN : NV N) (hG : MG (σ.1 88) N) {l : Nat} (hl : l < nL N) : f_X6_lineAt (nI l) (4 : Int32) σ = some (bI (eO N l), σ) := by
  have hm := hN.2.2.1
  rw [show (4 : Int32) = nI 4 from rfl, y_lineAt (by omega) (by omega), (hG.2.2.2 l hl).2.2.2.2]
theorem y_c91a (h : IN N σ 0 0 0) : f_X6_countOf_91 (2 : Int32) (fun (x31 : Int32) (σ32 : St) => some (x31, σ32)) 1000 (0 : Int32) (0 : Int32) σ = some (nI (svN N (nL N)), σ) := by
  have hN := h.NV
  have hm := hN.2.2.1
  have loop : ∀ (d l fuel : Nat), l + d = nL N → d < fuel → Ho (f_X6_countOf_91 (2 : Int32) (fun (x31 : Int32) (σ32 : St) => some (x31, σ32)) fuel (nI (svN N l)) (nI l) σ) (fun q => q = (nI (svN N (nL N)), σ)) := by
    intro d
    induction d with
    | zero =>
      intro l fuel hd hf
      obtain ⟨fuel, rfl⟩ : ∃ f, fuel = f + 1 := ⟨fuel - 1, by omega⟩
      have e : l = nL N := by omega
      subst e
      rw [f_X6_countOf_91, show (1 : Int32).toNatClampNeg = 1 from rfl, h.MG.2.1]
      exact ho_t (nI_ge' (Nat.le_refl _) (by omega)) (ho_some rfl)
    | succ d ih =>
      intro l fuel hd hf
      obtain ⟨fuel, rfl⟩ : ∃ f, fuel = f + 1 := ⟨fuel - 1, by omega⟩
      have hlt : l < nL N := by omega
      have q := ih (l + 1) fuel (by omega) (by omega)
      rw [f_X6_countOf_91, show (1 : Int32).toNatClampNeg = 1 from rfl, h.MG.2.1]
      refine ho_f (nI_nge' (by omega) (by omega)) (ho_t rfl (ho_be (y_lineAt4 hN h.MG hlt) (ho_nm ?_)))
      try dsimp only
      have e : nI (svN N l) + bI (eO N l) = nI (svN N (l + 1)) := by
        rw [svN]
        by_cases hO : eO N l = true
        · rw [if_pos hO, hO]; exact nI_1 _
        · rw [if_neg hO, bf_of hO]; exact nI_add _ 0
      rw [e, nI_1]
      exact q
  obtain ⟨a, ha, rfl⟩ := loop (nL N) 0 1000 (by omega) (by omega)
  exact ha
theorem y_c91b (h : IN N σ 0 0 0) : Ho (f_X6_countOf_91 (3 : Int32) (fun (x47 : Int32) (σ48 : St) => some (x47, σ48)) 1000 (0 : Int32) (0 : Int32) σ) (fun q => QM σ q.2 ∧ q.1 = nI (bcn N (nL N))) := by
  have hN := h.NV
  have hm := hN.2.2.1
  have loop : ∀ (d l fuel : Nat) (τ : St), l + d = nL N → d < fuel → QM σ τ → Ho (f_X6_countOf_91 (3 : Int32) (fun (x47 : Int32) (σ48 : St) => some (x47, σ48)) fuel (nI (bcn N l)) (nI l) τ) (fun q => QM σ q.2 ∧ q.1 = nI (bcn N (nL N))) := by
    intro d
    induction d with
    | zero =>
      intro l fuel τ hd hf hF
      obtain ⟨fuel, rfl⟩ : ∃ f, fuel = f + 1 := ⟨fuel - 1, by omega⟩
      have e : l = nL N := by omega
      subst e
      rw [f_X6_countOf_91, show (1 : Int32).toNatClampNeg = 1 from rfl, (h.m hF).MG.2.1]
      exact ho_t (nI_ge' (Nat.le_refl _) (by omega)) (ho_some ⟨hF, rfl⟩)
    | succ d ih =>
      intro l fuel τ hd hf hF
      obtain ⟨fuel, rfl⟩ : ∃ f, fuel = f + 1 := ⟨fuel - 1, by omega⟩
      have hlt : l < nL N := by omega
      rw [f_X6_countOf_91, show (1 : Int32).toNatClampNeg = 1 from rfl, (h.m hF).MG.2.1]
      refine ho_f (nI_nge' (by omega) (by omega)) (ho_f (by decide) (ho_bind (y_isBridge (h.m hF) hlt (slP_is hN (lvW N l))) (fun w hw => ?_)))
      obtain ⟨F1, w1, -⟩ := hw
      have q := ih (l + 1) fuel w.2 (by omega) (by omega) (hF.trans F1)
      rw [w1]
      by_cases c : brN N l = true
      · have c' := c
        unfold brN at c'
        rw [c']
        rw [bcn, if_pos c] at q
        refine ho_f (by decide) (ho_nm ?_)
        rw [show nI (bcn N l) + (1 : Int32) = nI (bcn N l + 1) from nI_1 _, nI_1]
        exact q
      · have c' := bf_of c
        unfold brN at c'
        rw [c']
        rw [bcn, if_neg c] at q
        refine ho_t rfl (ho_nm ?_)
        rw [show nI (bcn N l) + (0 : Int32) = nI (bcn N l + 0) from nI_add _ 0, nI_1]
        exact q
  exact loop (nL N) 0 1000 σ (by omega) (by omega) QM.refl
theorem y_countOf (h : IN N σ 0 0 0) {a : Int32} (ha : inR a 0 6 = true) : Ho (f_X6_countOf a σ) (fun q => QM σ q.2 ∧ q.1 = cntV N a) := by
  have hN := h.NV
  have hm := hN.2.2.1
  have hI := slP_is hN (eO N)
  unfold f_X6_countOf
  by_cases c0 : a = 0
  · rw [cv0 c0]
    refine ho_t c0 (ho_bind (y_inSet hN h.MG) (fun s hs => ?_))
    obtain ⟨s1, s2⟩ := hs
    rw [s1]
    refine ho_bind (y_partsS hN h.MG (s2.all hN) hI) (fun υ hυ => ?_)
    have Q := hυ.1.QM (by decide) (by decide)
    rw [y_c46 (h.m Q) (fun i hi => hI.lt hi) hυ.2]
    exact ho_some ⟨Q, rfl⟩
  refine ho_f c0 ?_
  by_cases c1 : a = 1
  · rw [cv1 c1]
    exact ho_t c1 (ho_some ⟨QM.refl, h.MG.2.1⟩)
  refine ho_f c1 ?_
  by_cases c2 : a = 2
  · rw [cv2 c2]
    refine ho_t c2 ?_
    rw [c2, y_c91a h]
    exact ho_some ⟨QM.refl, rfl⟩
  refine ho_f c2 ?_
  by_cases c3 : a = 3
  · rw [cv3 c3]
    refine ho_t c3 ?_
    rw [c3]
    exact y_c91b h
  refine ho_f c3 ?_
  by_cases c4 : a = 4
  · rw [cv4 c4]
    refine ho_t c4 (ho_bind (y_inSet hN h.MG) (fun s hs => ?_))
    obtain ⟨s1, s2⟩ := hs
    rw [s1]
    exact ho_bind (y_judges h hI (s2.all hN) (xP_is hN (eO N))) (fun υ hυ => ho_some ⟨Jd_QM hυ.1 hυ.2.1, hυ.2.2.2.2.2⟩)
  refine ho_f c4 ?_
  by_cases c6 : a = 6
  · rw [cv6 c6]
    exact ho_t c6 (ho_bind (y_ranksAll1 h) (fun υ hυ => ho_some ⟨hυ.1, hυ.2.2.1⟩))
  have c5 : a = 5 := by
    rcases in06 ha with w | w | w | w | w | w | w
    · exact absurd w c0
    · exact absurd w c1
    · exact absurd w c2
    · exact absurd w c3
    · exact absurd w c4
    · exact w
    · exact absurd w c6
  rw [cv5 c5]
  exact ho_f c6 (ho_bind (y_ranksAll0 h) (fun υ hυ => ho_some ⟨hυ.1, hυ.2.2.1⟩))
theorem op_count (h : IN N σ 0 0 0) (a : Int32) : OE N (f_X5_count a σ) (f_X6_count a) := by
  unfold OE
  by_cases g : inR a 0 6 = true
  · refine ho_mono (x_count h g) (fun q hq => ?_)
    unfold f_X6_count
    refine ho_be (y_in6 a q.2) ?_
    try dsimp only
    rw [g]
    exact ho_f (by decide) (ho_bind (y_countOf (h.q hq.1) g) (fun r hr => ho_some ⟨by rw [hr.2, hq.2], N, (h.q hq.1).m hr.1⟩))
  · have g' := bf_of g
    have ne : ∀ k : Nat, k ≤ 6 → ¬ a = nI k := fun k hk e => by
      rw [e] at g'
      have : inR (nI k) 0 6 = true := by unfold inR; rw [nI_t (by omega)]; exact decide_eq_true (by omega)
      rw [g'] at this
      cases this
    unfold f_X5_count
    refine ho_f (ne 0 (by omega)) (ho_f (ne 1 (by omega)) (ho_f (ne 2 (by omega)) (ho_f (ne 3 (by omega)) (ho_f (ne 4 (by omega)) (ho_f (ne 5 (by omega)) (ho_f (ne 6 (by omega)) (ho_bind (x_bad h) (fun q hq => ho_some ?_))))))))
    unfold f_X6_count
    refine ho_be (y_in6 a q.2) ?_
    try dsimp only
    rw [g']
    exact ho_t rfl (ho_bind (y_bad hq.2) (fun r hr => ho_some ⟨by rw [hr.1, hq.1], N, hr.2⟩))
end Ct
