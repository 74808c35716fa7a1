/-! the cells made, by their ids; the store at the start (wip/whole/gen/mk94.py) -/
def aW5 (x : Nat) (qg : Nat → Nat) (cg : Nat → ClassId) (pa : Nat) (qs qt qr : Nat → Nat) : va_W := (x, .inr (5, [.ref (qg 0), .ref pa, .ref (qs 0), .ref (qt 0), .ref (qr 0), .int 0, .int 0, .int 0])) :: GrW qg cg
def aWp (pa a : Nat) (ca : ClassId) (fp : Nat → Option Nat) (G : Nat → Nat → Nat) (C : Nat → Nat → ClassId) : va_W := (pa, .inr (1, [.ref a, .int 0, .int 0])) :: (a, .inl (ca, 8, .inr (.inr (.inr (.inr fp))))) :: GrF G C 8
def aW (x : Nat) (qg : Nat → Nat) (cg : Nat → ClassId) (pa a : Nat) (ca : ClassId) (fp : Nat → Option Nat) (G : Nat → Nat → Nat) (C : Nat → Nat → ClassId) (qs : Nat → Nat) (cs : Nat → ClassId) (f : Nat → Option Nat) (qt : Nat → Nat) (ct : Nat → ClassId) (qr : Nat → Nat) (cr : Nat → ClassId) (qm : Nat → Nat) (cm : Nat → ClassId) : va_W := ((((aW5 x qg cg pa qs qt qr ++ aWp pa a ca fp G C) ++ ScW qs cs) ++ StW (qg 0) f qt ct) ++ RaW qr cr) ++ MoW qm cm
def aT (cg : Nat → ClassId) (ca : ClassId) (C : Nat → Nat → ClassId) (cs ct cr cm : Nat → ClassId) : Tys := ((((GrT cg ++ ((ca, .object "OutageScreen$Grid") :: GrFT C 8)) ++ ScT cs) ++ StT ct) ++ RaT cr) ++ MoT cm
theorem GrF_len {G : Nat → Nat → Nat} {C : Nat → Nat → ClassId} : ∀ n, (GrF G C n).length = 7 * n
  | 0 => rfl
  | n + 1 => by
    rw [GrF, List.length_append, GrF_len n]
    show 7 * n + 7 = _
    omega
theorem GrF_at {G : Nat → Nat → Nat} {C : Nat → Nat → ClassId} : ∀ {n γ r : Nat}, γ < n → r < 7 → (GrF G C n)[7 * γ + r]? = (GrW (G (γ + 1)) (C (γ + 1)))[r]?
  | 0, γ, r, h, _ => absurd h (Nat.not_lt_zero γ)
  | n + 1, γ, r, h, hr => by
    rw [GrF]
    by_cases e : γ = n
    · subst e
      rw [List.getElem?_append_right (by rw [GrF_len]; omega), GrF_len, show 7 * γ + r - 7 * γ = r by omega]
    · rw [List.getElem?_append_left (by rw [GrF_len]; omega)]
      exact GrF_at (by omega) hr
theorem GrFT_in {C : Nat → Nat → ClassId} {q : ClassId × FieldType} : ∀ {n γ : Nat}, γ < n → q ∈ GrT (C (γ + 1)) → q ∈ GrFT C n
  | 0, γ, h, _ => absurd h (Nat.not_lt_zero γ)
  | n + 1, γ, h, hq => by
    rw [GrFT]
    by_cases e : γ = n
    · subst e
      exact List.mem_append_right _ hq
    · exact List.mem_append_left _ (GrFT_in (by omega) hq)
theorem arr_cg {c : ClassId} {n : Nat} {f g : Nat → Option Nat} (h : ∀ j, j < n → f j = g j) : vp_cell c (n, .inr (.inr (.inr (.inr f)))) = vp_cell c (n, .inr (.inr (.inr (.inr g)))) := by
  have e : (Array.ofFn (n := n) fun j => va_rf (f j.val)) = Array.ofFn (n := n) fun j => va_rf (g j.val) := by
    apply Array.ext
    · simp
    · intro j h1 h2
      simp only [Array.getElem_ofFn]
      rw [h j (by simpa using h1)]
  show ({ cls := c, slots := Array.ofFn (n := n) fun j => va_rf (f j.val), vm := .none } : Cell) = { cls := c, slots := Array.ofFn (n := n) fun j => va_rf (g j.val), vm := .none }
  rw [e]
/-- the grids: the one at hand, then those kept -/
def gX (qg : Nat → Nat) (G : Nat → Nat → Nat) (γ : Nat) : Nat → Nat := if γ = 0 then qg else G γ
def gC (cg : Nat → ClassId) (C : Nat → Nat → ClassId) (γ : Nat) : Nat → ClassId := if γ = 0 then cg else C γ
def aF (x pa a : Nat) (qg qs qt qr qm : Nat → Nat) (G : Nat → Nat → Nat) (adK adV : Nat → Nat) (t b : Nat) (i : Nat) : Nat :=
  if i < 24 then (if i < 3 then [x, pa, a].getD i 0 else if i < 6 then qs (i - 3) else if i < 19 then qt (i - 6) else qr (i - 19)) else if i < 87 then gX qg G ((i - 24) / 7) ((i - 24) % 7) else if i < 106 then qm (i - 87) else if i < 208 then adK (i - 200) else if i < 218 then adV (i - 210) else if i < 300 then t else b
def aC (ca : ClassId) (cg cs ct cr cm : Nat → ClassId) (C : Nat → Nat → ClassId) (i : Nat) : ClassId :=
  if i < 24 then (if i < 3 then ca else if i < 6 then cs (i - 3) else if i < 10 then ct (i - 6) else if i < 16 then ct 4 else if i < 19 then ct (i - 6) else cr (i - 19)) else if i < 87 then gC cg C ((i - 24) / 7) ((i - 24) % 7) else cm (i - 87)
def σ0 : St := (fun i => if i < 24 then (if i = 6 then upd (fun _ => 0) 8 (-1) else fun _ => 0) else if i < 87 then (if (i - 24) % 7 = 0 then upd (fun _ => 0) 6 4 else fun _ => 0) else if i = 88 then upd (fun _ => 0) 0 4 else if i = 104 then wdF 64 else fun _ => 0, fun i => if i = 6 then vp_updL (vp_updL (fun _ => 0) 7 1) 10 1 else fun _ => 0)
def aP (i : Nat) : Nat := if i < 24 then (if i = 0 then 0 else if i < 3 then 7 + i else 63 + i) else if i < 87 then (if i < 31 then i - 23 else i - 21) else i
theorem aP_inj : ∀ i j, i < 106 → j < 106 → aP i = aP j → i = j := by
  intro i j hi hj h
  unfold aP at h
  repeat' split at h
  all_goals omega
section AP
variable {x : Nat} {qg : Nat → Nat} {cg : Nat → ClassId} {pa a : Nat} {ca : ClassId} {fp : Nat → Option Nat} {G : Nat → Nat → Nat} {C : Nat → Nat → ClassId} {qs : Nat → Nat} {cs : Nat → ClassId} {f : Nat → Option Nat} {qt : Nat → Nat} {ct : Nat → ClassId} {qr : Nat → Nat} {cr : Nat → ClassId} {qm : Nat → Nat} {cm : Nat → ClassId} {D : va_G} {H : Heap} {adK adV : Nat → Nat} {t b : Nat}
theorem l5 : (aW5 x qg cg pa qs qt qr).length = 8 := rfl
theorem lp : (aWp pa a ca fp G C).length = 58 := by
  show (GrF G C 8).length + 1 + 1 = 58
  rw [GrF_len]
theorem l4 : (aW5 x qg cg pa qs qt qr ++ aWp pa a ca fp G C).length = 66 := by rw [List.length_append, l5, lp]
theorem l3 : ((aW5 x qg cg pa qs qt qr ++ aWp pa a ca fp G C) ++ ScW qs cs).length = 69 := by rw [List.length_append, l4]; rfl
theorem l2 : (((aW5 x qg cg pa qs qt qr ++ aWp pa a ca fp G C) ++ ScW qs cs) ++ StW (qg 0) f qt ct).length = 82 := by rw [List.length_append, l3]; rfl
theorem l1 : ((((aW5 x qg cg pa qs qt qr ++ aWp pa a ca fp G C) ++ ScW qs cs) ++ StW (qg 0) f qt ct) ++ RaW qr cr).length = 87 := by rw [List.length_append, l2]; rfl
theorem w_mo {k : Nat} : (aW x qg cg pa a ca fp G C qs cs f qt ct qr cr qm cm)[87 + k]? = (MoW qm cm)[k]? := by
  unfold aW
  rw [List.getElem?_append_right (by rw [l1]; omega), l1, show 87 + k - 87 = k by omega]
theorem w_ra {k : Nat} (h : k < 5) : (aW x qg cg pa a ca fp G C qs cs f qt ct qr cr qm cm)[82 + k]? = (RaW qr cr)[k]? := by
  unfold aW
  rw [List.getElem?_append_left (by rw [l1]; omega), List.getElem?_append_right (by rw [l2]; omega), l2, show 82 + k - 82 = k by omega]
theorem w_st {k : Nat} (h : k < 13) : (aW x qg cg pa a ca fp G C qs cs f qt ct qr cr qm cm)[69 + k]? = (StW (qg 0) f qt ct)[k]? := by
  unfold aW
  rw [List.getElem?_append_left (by rw [l1]; omega), List.getElem?_append_left (by rw [l2]; omega), List.getElem?_append_right (by rw [l3]; omega), l3, show 69 + k - 69 = k by omega]
theorem w_sc {k : Nat} (h : k < 3) : (aW x qg cg pa a ca fp G C qs cs f qt ct qr cr qm cm)[66 + k]? = (ScW qs cs)[k]? := by
  unfold aW
  rw [List.getElem?_append_left (by rw [l1]; omega), List.getElem?_append_left (by rw [l2]; omega), List.getElem?_append_left (by rw [l3]; omega), List.getElem?_append_right (by rw [l4]; omega), l4, show 66 + k - 66 = k by omega]
theorem w_p {k : Nat} (h : k < 58) : (aW x qg cg pa a ca fp G C qs cs f qt ct qr cr qm cm)[8 + k]? = (aWp pa a ca fp G C)[k]? := by
  unfold aW
  rw [List.getElem?_append_left (by rw [l1]; omega), List.getElem?_append_left (by rw [l2]; omega), List.getElem?_append_left (by rw [l3]; omega), List.getElem?_append_left (by rw [l4]; omega), List.getElem?_append_right (by rw [l5]; omega), l5, show 8 + k - 8 = k by omega]
theorem w_5 {k : Nat} (h : k < 8) : (aW x qg cg pa a ca fp G C qs cs f qt ct qr cr qm cm)[k]? = (aW5 x qg cg pa qs qt qr)[k]? := by
  unfold aW
  rw [List.getElem?_append_left (by rw [l1]; omega), List.getElem?_append_left (by rw [l2]; omega), List.getElem?_append_left (by rw [l3]; omega), List.getElem?_append_left (by rw [l4]; omega), List.getElem?_append_left (by rw [l5]; omega)]
theorem w_g {γ r : Nat} (h : γ < 9) (hr : r < 7) : (aW x qg cg pa a ca fp G C qs cs f qt ct qr cr qm cm)[aP (24 + 7 * γ + r)]? = (GrW (gX qg G γ) (gC cg C γ))[r]? := by
  have e9 : aP (24 + 7 * γ + r) = if γ = 0 then 1 + r else 8 + (2 + (7 * (γ - 1) + r)) := by
    unfold aP
    rw [if_neg (by omega), if_pos (by omega)]
    by_cases e : γ = 0
    · subst e
      rw [if_pos (by omega), if_pos rfl]
      omega
    · rw [if_neg (by omega), if_neg e]
      omega
  rw [e9]
  by_cases e : γ = 0
  · subst e
    rw [if_pos rfl, w_5 (by omega), show 1 + r = r + 1 by omega]
    rfl
  · rw [if_neg e, w_p (by omega), show 2 + (7 * (γ - 1) + r) = 7 * (γ - 1) + r + 1 + 1 by omega]
    show (GrF G C 8)[7 * (γ - 1) + r]? = _
    rw [GrF_at (by omega) hr, show γ - 1 + 1 = γ by omega]
    unfold gX gC
    rw [if_neg e, if_neg e]
theorem ad_g {γ r : Nat} (h : γ < 9) (hr : r < 7) : (aF x pa a qg qs qt qr qm G adK adV t b) (24 + 7 * γ + r) = gX qg G γ r := by
  unfold aF
  rw [if_neg (by omega), if_pos (by omega), show (24 + 7 * γ + r - 24) / 7 = γ by omega, show (24 + 7 * γ + r - 24) % 7 = r by omega]
theorem ca_g {γ r : Nat} (h : γ < 9) (hr : r < 7) : (aC ca cg cs ct cr cm C) (24 + 7 * γ + r) = gC cg C γ r := by
  unfold aC
  rw [if_neg (by omega), if_pos (by omega), show (24 + 7 * γ + r - 24) / 7 = γ by omega, show (24 + 7 * γ + r - 24) % 7 = r by omega]
theorem s_g {γ r : Nat} (h : γ < 9) (hr : r < 7) : σ0.1 (24 + 7 * γ + r) = if r = 0 then upd (fun _ => 0) 6 4 else fun _ => 0 := by
  show (if 24 + 7 * γ + r < 24 then _ else _) = _
  rw [if_neg (by omega), if_pos (by omega), show (24 + 7 * γ + r - 24) % 7 = r by omega]
theorem pl_G (hP : va_P D cl7 (aW x qg cg pa a ca fp G C qs cs f qt ct qr cr qm cm) H) {γ r : Nat} (h : γ < 9) (hr : r < 7) : va_at D cl7 ((aF x pa a qg qs qt qr qm G adK adV t b) (24 + 7 * γ + r), ceO (aF x pa a qg qs qt qr qm G adK adV t b) (aC ca cg cs ct cr cm C) σ0 (24 + 7 * γ + r)) H := by
  have hG : ∀ q, (GrW (gX qg G γ) (gC cg C γ))[r]? = some q → va_at D cl7 q H := fun q hq => hP _ q ((w_g h hr).trans hq)
  by_cases e : r = 0
  · subst e
    have a0 := ad_g (x := x) (pa := pa) (a := a) (qg := qg) (G := G) (qs := qs) (qt := qt) (qr := qr) (qm := qm) (adK := adK) (adV := adV) (t := t) (b := b) (γ := γ) (r := 0) h (by omega)
    have a1 := ad_g (x := x) (pa := pa) (a := a) (qg := qg) (G := G) (qs := qs) (qt := qt) (qr := qr) (qm := qm) (adK := adK) (adV := adV) (t := t) (b := b) (γ := γ) (r := 1) h (by omega)
    have a2 := ad_g (x := x) (pa := pa) (a := a) (qg := qg) (G := G) (qs := qs) (qt := qt) (qr := qr) (qm := qm) (adK := adK) (adV := adV) (t := t) (b := b) (γ := γ) (r := 2) h (by omega)
    have a3 := ad_g (x := x) (pa := pa) (a := a) (qg := qg) (G := G) (qs := qs) (qt := qt) (qr := qr) (qm := qm) (adK := adK) (adV := adV) (t := t) (b := b) (γ := γ) (r := 3) h (by omega)
    have a4 := ad_g (x := x) (pa := pa) (a := a) (qg := qg) (G := G) (qs := qs) (qt := qt) (qr := qr) (qm := qm) (adK := adK) (adV := adV) (t := t) (b := b) (γ := γ) (r := 4) h (by omega)
    have a5 := ad_g (x := x) (pa := pa) (a := a) (qg := qg) (G := G) (qs := qs) (qt := qt) (qr := qr) (qm := qm) (adK := adK) (adV := adV) (t := t) (b := b) (γ := γ) (r := 5) h (by omega)
    have a6 := ad_g (x := x) (pa := pa) (a := a) (qg := qg) (G := G) (qs := qs) (qt := qt) (qr := qr) (qm := qm) (adK := adK) (adV := adV) (t := t) (b := b) (γ := γ) (r := 6) h (by omega)
    have s0 := s_g (γ := γ) (r := 0) h (by omega)
    rw [Nat.add_zero] at a0 s0 ⊢
    unfold ceO
    rw [kd_g0 h, s0, if_pos rfl, a0]
    show va_at D cl7 (_, .inr (0, [.ref ((aF x pa a qg qs qt qr qm G adK adV t b) (24 + 7 * γ + 1)), .ref ((aF x pa a qg qs qt qr qm G adK adV t b) (24 + 7 * γ + 2)), .ref ((aF x pa a qg qs qt qr qm G adK adV t b) (24 + 7 * γ + 3)), .ref ((aF x pa a qg qs qt qr qm G adK adV t b) (24 + 7 * γ + 4)), .ref ((aF x pa a qg qs qt qr qm G adK adV t b) (24 + 7 * γ + 5)), .ref ((aF x pa a qg qs qt qr qm G adK adV t b) (24 + 7 * γ + 6)), .int 4, .int 0])) H
    rw [a1, a2, a3, a4, a5, a6]
    exact hG _ rfl
  · have a0 := ad_g (x := x) (pa := pa) (a := a) (qg := qg) (G := G) (qs := qs) (qt := qt) (qr := qr) (qm := qm) (adK := adK) (adV := adV) (t := t) (b := b) h hr
    have c0 := ca_g (ca := ca) (cg := cg) (C := C) (cs := cs) (ct := ct) (cr := cr) (cm := cm) h hr
    unfold ceO
    rw [kd_ga h (by omega) hr, s_g h hr, if_neg e, a0]
    rcases (show r = 1 ∨ r = 2 ∨ r = 3 ∨ r = 4 ∨ r = 5 ∨ r = 6 by omega) with rfl | rfl | rfl | rfl | rfl | rfl
    all_goals
      unfold kdG mkC
      rw [c0]
      exact hG _ rfl
set_option maxRecDepth 100000 in
set_option maxHeartbeats 4000000 in
theorem pl_P (hP : va_P D cl7 (aW x qg cg pa a ca fp G C qs cs f qt ct qr cr qm cm) H) (hf : ∀ j, j < 6 → f j = some (qt (4 + j))) (hfp : ∀ j, j < 8 → fp j = some (G (j + 1) 0)) : va_P D cl7 (wS (aF x pa a qg qs qt qr qm G adK adV t b) (aC ca cg cs ct cr cm C) σ0) H := by
  intro k q hk
  obtain ⟨h1, rfl⟩ := wS_out hk
  by_cases hg : 24 ≤ k ∧ k < 87
  · have e : k = 24 + 7 * ((k - 24) / 7) + (k - 24) % 7 := by omega
    rw [e]
    exact pl_G hP (by omega) (Nat.mod_lt _ (by omega))
  · by_cases hm : 87 ≤ k
    · obtain ⟨j, rfl⟩ : ∃ j, k = 87 + j := ⟨k - 87, by omega⟩
      have hM : ∀ q, (MoW qm cm)[j]? = some q → va_at D cl7 q H := fun q hq => hP _ q (w_mo.trans hq)
      clear hk hP hg hm
      have h2 : 87 + j < 106 := h1
      have hj : j < 19 := by omega
      match j, hj with
      | 0, _ => exact hM _ rfl
      | 1, _ => exact hM _ rfl
      | 2, _ => exact hM _ rfl
      | 3, _ => exact hM _ rfl
      | 4, _ => exact hM _ rfl
      | 5, _ => exact hM _ rfl
      | 6, _ => exact hM _ rfl
      | 7, _ => exact hM _ rfl
      | 8, _ => exact hM _ rfl
      | 9, _ => exact hM _ rfl
      | 10, _ => exact hM _ rfl
      | 11, _ => exact hM _ rfl
      | 12, _ => exact hM _ rfl
      | 13, _ => exact hM _ rfl
      | 14, _ => exact hM _ rfl
      | 15, _ => exact hM _ rfl
      | 16, _ => exact hM _ rfl
      | 17, _ => exact hM _ rfl
      | 18, _ => exact hM _ rfl
      | j + 19, h => exact absurd h (by omega)
    · have h2 : k < 106 := h1
      have hk24 : k < 24 := by omega
      clear hk hg hm h1 h2
      match k, hk24 with
      | 0, _ => exact hP 0 _ ((w_5 (by omega)).trans rfl)
      | 1, _ => exact hP (8 + 0) _ ((w_p (by omega)).trans rfl)
      | 2, _ => exact (show H[a]? = some (vp_cell ca (8, .inr (.inr (.inr (.inr fp))))) from hP (8 + 1) (a, .inl (ca, 8, .inr (.inr (.inr (.inr fp))))) ((w_p (by omega)).trans rfl)).trans (congrArg some (arr_cg (fun j hj => by rw [hfp j hj]; rcases (show j = 0 ∨ j = 1 ∨ j = 2 ∨ j = 3 ∨ j = 4 ∨ j = 5 ∨ j = 6 ∨ j = 7 by omega) with rfl | rfl | rfl | rfl | rfl | rfl | rfl | rfl <;> rfl)))
      | 3, _ => exact hP (66 + 0) _ ((w_sc (by omega)).trans rfl)
      | 4, _ => exact hP (66 + 1) _ ((w_sc (by omega)).trans rfl)
      | 5, _ => exact hP (66 + 2) _ ((w_sc (by omega)).trans rfl)
      | 6, _ => exact hP (69 + 0) _ ((w_st (by omega)).trans rfl)
      | 7, _ => exact hP (69 + 1) _ ((w_st (by omega)).trans rfl)
      | 8, _ => exact hP (69 + 2) _ ((w_st (by omega)).trans rfl)
      | 9, _ => exact (show H[qt 3]? = some (vp_cell (ct 3) (6, .inr (.inr (.inr (.inr f))))) from hP (69 + 3) (qt 3, .inl (ct 3, 6, .inr (.inr (.inr (.inr f))))) ((w_st (by omega)).trans rfl)).trans (congrArg some (arr_cg (fun j hj => by rw [hf j hj]; rcases (show j = 0 ∨ j = 1 ∨ j = 2 ∨ j = 3 ∨ j = 4 ∨ j = 5 by omega) with rfl | rfl | rfl | rfl | rfl | rfl <;> rfl)))
      | 10, _ => exact hP (69 + 4) _ ((w_st (by omega)).trans rfl)
      | 11, _ => exact hP (69 + 5) _ ((w_st (by omega)).trans rfl)
      | 12, _ => exact hP (69 + 6) _ ((w_st (by omega)).trans rfl)
      | 13, _ => exact hP (69 + 7) _ ((w_st (by omega)).trans rfl)
      | 14, _ => exact hP (69 + 8) _ ((w_st (by omega)).trans rfl)
      | 15, _ => exact hP (69 + 9) _ ((w_st (by omega)).trans rfl)
      | 16, _ => exact hP (69 + 10) _ ((w_st (by omega)).trans rfl)
      | 17, _ => exact hP (69 + 11) _ ((w_st (by omega)).trans rfl)
      | 18, _ => exact hP (69 + 12) _ ((w_st (by omega)).trans rfl)
      | 19, _ => exact hP (82 + 0) _ ((w_ra (by omega)).trans rfl)
      | 20, _ => exact hP (82 + 1) _ ((w_ra (by omega)).trans rfl)
      | 21, _ => exact hP (82 + 2) _ ((w_ra (by omega)).trans rfl)
      | 22, _ => exact hP (82 + 3) _ ((w_ra (by omega)).trans rfl)
      | 23, _ => exact hP (82 + 4) _ ((w_ra (by omega)).trans rfl)
      | k + 24, h => exact absurd h (by omega)
theorem aW_al (i : Nat) (hi : i < 106) : ∃ e, (aW x qg cg pa a ca fp G C qs cs f qt ct qr cr qm cm)[aP i]? = some ((aF x pa a qg qs qt qr qm G adK adV t b) i, e) := by
  by_cases hg : 24 ≤ i ∧ i < 87
  · have e : i = 24 + 7 * ((i - 24) / 7) + (i - 24) % 7 := by omega
    have h7 : (i - 24) % 7 < 7 := Nat.mod_lt _ (by omega)
    rw [e, w_g (by omega) h7, ad_g (by omega) h7]
    generalize (i - 24) % 7 = r at h7
    rcases (show r = 0 ∨ r = 1 ∨ r = 2 ∨ r = 3 ∨ r = 4 ∨ r = 5 ∨ r = 6 by omega) with rfl | rfl | rfl | rfl | rfl | rfl | rfl <;> exact ⟨_, rfl⟩
  · by_cases hm : 87 ≤ i
    · obtain ⟨j, rfl⟩ : ∃ j, i = 87 + j := ⟨i - 87, by omega⟩
      have e1 : aP (87 + j) = 87 + j := by unfold aP; rw [if_neg (by omega), if_neg (by omega)]
      rw [e1, w_mo]
      have hj : j < 19 := by omega
      clear hg hm e1 hi
      match j, hj with
      | 0, _ => exact ⟨_, rfl⟩
      | 1, _ => exact ⟨_, rfl⟩
      | 2, _ => exact ⟨_, rfl⟩
      | 3, _ => exact ⟨_, rfl⟩
      | 4, _ => exact ⟨_, rfl⟩
      | 5, _ => exact ⟨_, rfl⟩
      | 6, _ => exact ⟨_, rfl⟩
      | 7, _ => exact ⟨_, rfl⟩
      | 8, _ => exact ⟨_, rfl⟩
      | 9, _ => exact ⟨_, rfl⟩
      | 10, _ => exact ⟨_, rfl⟩
      | 11, _ => exact ⟨_, rfl⟩
      | 12, _ => exact ⟨_, rfl⟩
      | 13, _ => exact ⟨_, rfl⟩
      | 14, _ => exact ⟨_, rfl⟩
      | 15, _ => exact ⟨_, rfl⟩
      | 16, _ => exact ⟨_, rfl⟩
      | 17, _ => exact ⟨_, rfl⟩
      | 18, _ => exact ⟨_, rfl⟩
      | j + 19, h => exact absurd h (by omega)
    · have h24 : i < 24 := by omega
      clear hg hm hi
      match i, h24 with
      | 0, _ => exact ⟨_, (w_5 (k := 0) (by omega)).trans rfl⟩
      | 1, _ => exact ⟨_, (w_p (k := 0) (by omega)).trans rfl⟩
      | 2, _ => exact ⟨_, (w_p (k := 1) (by omega)).trans rfl⟩
      | 3, _ => exact ⟨_, (w_sc (k := 0) (by omega)).trans rfl⟩
      | 4, _ => exact ⟨_, (w_sc (k := 1) (by omega)).trans rfl⟩
      | 5, _ => exact ⟨_, (w_sc (k := 2) (by omega)).trans rfl⟩
      | 6, _ => exact ⟨_, (w_st (k := 0) (by omega)).trans rfl⟩
      | 7, _ => exact ⟨_, (w_st (k := 1) (by omega)).trans rfl⟩
      | 8, _ => exact ⟨_, (w_st (k := 2) (by omega)).trans rfl⟩
      | 9, _ => exact ⟨_, (w_st (k := 3) (by omega)).trans rfl⟩
      | 10, _ => exact ⟨_, (w_st (k := 4) (by omega)).trans rfl⟩
      | 11, _ => exact ⟨_, (w_st (k := 5) (by omega)).trans rfl⟩
      | 12, _ => exact ⟨_, (w_st (k := 6) (by omega)).trans rfl⟩
      | 13, _ => exact ⟨_, (w_st (k := 7) (by omega)).trans rfl⟩
      | 14, _ => exact ⟨_, (w_st (k := 8) (by omega)).trans rfl⟩
      | 15, _ => exact ⟨_, (w_st (k := 9) (by omega)).trans rfl⟩
      | 16, _ => exact ⟨_, (w_st (k := 10) (by omega)).trans rfl⟩
      | 17, _ => exact ⟨_, (w_st (k := 11) (by omega)).trans rfl⟩
      | 18, _ => exact ⟨_, (w_st (k := 12) (by omega)).trans rfl⟩
      | 19, _ => exact ⟨_, (w_ra (k := 0) (by omega)).trans rfl⟩
      | 20, _ => exact ⟨_, (w_ra (k := 1) (by omega)).trans rfl⟩
      | 21, _ => exact ⟨_, (w_ra (k := 2) (by omega)).trans rfl⟩
      | 22, _ => exact ⟨_, (w_ra (k := 3) (by omega)).trans rfl⟩
      | 23, _ => exact ⟨_, (w_ra (k := 4) (by omega)).trans rfl⟩
      | k + 24, h => exact absurd h (by omega)
theorem pl_I {A : Nat → Prop} (hD : va_D A (aW x qg cg pa a ca fp G C qs cs f qt ct qr cr qm cm)) : Inj (aF x pa a qg qs qt qr qm G adK adV t b) := by
  intro i j hi hj e
  obtain ⟨e1, q1⟩ := aW_al (x := x) (qg := qg) (cg := cg) (pa := pa) (a := a) (ca := ca) (fp := fp) (G := G) (C := C) (qs := qs) (cs := cs) (f := f) (qt := qt) (ct := ct) (qr := qr) (cr := cr) (qm := qm) (cm := cm) (adK := adK) (adV := adV) (t := t) (b := b) i hi
  obtain ⟨e2, q2⟩ := aW_al (x := x) (qg := qg) (cg := cg) (pa := pa) (a := a) (ca := ca) (fp := fp) (G := G) (C := C) (qs := qs) (cs := cs) (f := f) (qt := qt) (ct := ct) (qr := qr) (cr := cr) (qm := qm) (cm := cm) (adK := adK) (adV := adV) (t := t) (b := b) j hj
  exact aP_inj i j hi hj (hD.1 _ _ _ _ q1 q2 e)
theorem pl_A {A : Nat → Prop} (hD : va_D A (aW x qg cg pa a ca fp G C qs cs f qt ct qr cr qm cm)) (i : Nat) (hi : i < 106) : A ((aF x pa a qg qs qt qr qm G adK adV t b) i) := by
  obtain ⟨e1, q1⟩ := aW_al (x := x) (qg := qg) (cg := cg) (pa := pa) (a := a) (ca := ca) (fp := fp) (G := G) (C := C) (qs := qs) (cs := cs) (f := f) (qt := qt) (ct := ct) (qr := qr) (cr := cr) (qm := qm) (cm := cm) (adK := adK) (adV := adV) (t := t) (b := b) i hi
  exact hD.2 _ _ q1
theorem pl_K {s : State} (hK : va_K D cl7 (aT cg ca C cs ct cr cm) s) : KA (aC ca cg cs ct cr cm C) s := by
  have all : ∀ q ∈ aT cg ca C cs ct cr cm, ArrOfT s q.1 q.2 ∧ va_RA s q.1 q.2 := fun q hq => by
    obtain ⟨i, hi⟩ := List.getElem?_of_mem hq
    exact hK.2 i q hi
  unfold aT at all
  have hm : ∀ q ∈ MoT cm, ArrOfT s q.1 q.2 ∧ va_RA s q.1 q.2 := fun q hq => all q (List.mem_append_right _ hq)
  have hra : ∀ q ∈ RaT cr, ArrOfT s q.1 q.2 ∧ va_RA s q.1 q.2 := fun q hq => all q (List.mem_append_left _ (List.mem_append_right _ hq))
  have hst : ∀ q ∈ StT ct, ArrOfT s q.1 q.2 ∧ va_RA s q.1 q.2 := fun q hq => all q (List.mem_append_left _ (List.mem_append_left _ (List.mem_append_right _ hq)))
  have hsc : ∀ q ∈ ScT cs, ArrOfT s q.1 q.2 ∧ va_RA s q.1 q.2 := fun q hq => all q (List.mem_append_left _ (List.mem_append_left _ (List.mem_append_left _ (List.mem_append_right _ hq))))
  have hp : ∀ q ∈ ((ca, FieldType.object "OutageScreen$Grid") :: GrFT C 8), ArrOfT s q.1 q.2 ∧ va_RA s q.1 q.2 := fun q hq => all q (List.mem_append_left _ (List.mem_append_left _ (List.mem_append_left _ (List.mem_append_left _ (List.mem_append_right _ hq)))))
  have h0 : ∀ q ∈ GrT cg, ArrOfT s q.1 q.2 ∧ va_RA s q.1 q.2 := fun q hq => all q (List.mem_append_left _ (List.mem_append_left _ (List.mem_append_left _ (List.mem_append_left _ (List.mem_append_left _ hq)))))
  have hg : ∀ γ, γ < 9 → ∀ q ∈ GrT (gC cg C γ), ArrOfT s q.1 q.2 ∧ va_RA s q.1 q.2 := fun γ hγ q hq => by
    unfold gC at hq
    by_cases e : γ = 0
    · rw [if_pos e] at hq
      exact h0 q hq
    · rw [if_neg e, show γ = γ - 1 + 1 by omega] at hq
      exact hp q (List.mem_cons_of_mem _ (GrFT_in (by omega) hq))
  intro j hj hj0
  have hj2 : j < 106 := hj
  by_cases h9 : 24 ≤ j ∧ j < 87
  · have e : j = 24 + 7 * ((j - 24) / 7) + (j - 24) % 7 := by omega
    have h7 : (j - 24) % 7 < 7 := Nat.mod_lt _ (by omega)
    have hγ : (j - 24) / 7 < 9 := by omega
    generalize (j - 24) % 7 = r at h7 e
    generalize (j - 24) / 7 = γ at hγ e
    subst e
    rw [ca_g hγ h7]
    by_cases e0 : r = 0
    · subst e0
      rw [Nat.add_zero, kd_g0 hγ] at hj0
      exact absurd rfl hj0
    · rw [kd_ga hγ (by omega) h7]
      rcases (show r = 1 ∨ r = 2 ∨ r = 3 ∨ r = 4 ∨ r = 5 ∨ r = 6 by omega) with rfl | rfl | rfl | rfl | rfl | rfl
      · exact hg γ hγ _ (List.mem_of_getElem? (i := 0) rfl)
      · exact hg γ hγ _ (List.mem_of_getElem? (i := 1) rfl)
      · exact hg γ hγ _ (List.mem_of_getElem? (i := 2) rfl)
      · exact hg γ hγ _ (List.mem_of_getElem? (i := 3) rfl)
      · exact hg γ hγ _ (List.mem_of_getElem? (i := 4) rfl)
      · exact hg γ hγ _ (List.mem_of_getElem? (i := 5) rfl)
  · by_cases h8 : 87 ≤ j
    · obtain ⟨i, rfl⟩ : ∃ i, j = 87 + i := ⟨j - 87, by omega⟩
      have hi : i < 19 := by omega
      clear h9 h8 hj hj2
      match i, hi, hj0 with
      | 0, _, h => exact absurd rfl h
      | 1, _, _ => exact hm (cm 1, _) (List.mem_of_getElem? (i := 0) rfl)
      | 2, _, _ => exact hm (cm 2, _) (List.mem_of_getElem? (i := 1) rfl)
      | 3, _, _ => exact hm (cm 3, _) (List.mem_of_getElem? (i := 2) rfl)
      | 4, _, _ => exact hm (cm 4, _) (List.mem_of_getElem? (i := 3) rfl)
      | 5, _, _ => exact hm (cm 5, _) (List.mem_of_getElem? (i := 4) rfl)
      | 6, _, _ => exact hm (cm 6, _) (List.mem_of_getElem? (i := 5) rfl)
      | 7, _, _ => exact hm (cm 7, _) (List.mem_of_getElem? (i := 6) rfl)
      | 8, _, _ => exact hm (cm 8, _) (List.mem_of_getElem? (i := 7) rfl)
      | 9, _, _ => exact hm (cm 9, _) (List.mem_of_getElem? (i := 8) rfl)
      | 10, _, _ => exact hm (cm 10, _) (List.mem_of_getElem? (i := 9) rfl)
      | 11, _, _ => exact hm (cm 11, _) (List.mem_of_getElem? (i := 10) rfl)
      | 12, _, _ => exact hm (cm 12, _) (List.mem_of_getElem? (i := 11) rfl)
      | 13, _, _ => exact hm (cm 13, _) (List.mem_of_getElem? (i := 12) rfl)
      | 14, _, _ => exact hm (cm 14, _) (List.mem_of_getElem? (i := 13) rfl)
      | 15, _, _ => exact hm (cm 15, _) (List.mem_of_getElem? (i := 14) rfl)
      | 16, _, _ => exact hm (cm 16, _) (List.mem_of_getElem? (i := 15) rfl)
      | 17, _, _ => exact hm (cm 17, _) (List.mem_of_getElem? (i := 16) rfl)
      | 18, _, _ => exact hm (cm 18, _) (List.mem_of_getElem? (i := 17) rfl)
      | i + 19, h, _ => exact absurd h (by omega)
    · have h24 : j < 24 := by omega
      clear h9 h8 hj hj2
      match j, h24, hj0 with
      | 0, _, h => exact absurd rfl h
      | 1, _, h => exact absurd rfl h
      | 2, _, _ => exact hp (ca, _) (List.mem_of_getElem? (i := 0) rfl)
      | 3, _, h => exact absurd rfl h
      | 4, _, _ => exact hsc (cs 1, _) (List.mem_of_getElem? (i := 0) rfl)
      | 5, _, _ => exact hsc (cs 2, _) (List.mem_of_getElem? (i := 1) rfl)
      | 6, _, h => exact absurd rfl h
      | 7, _, _ => exact hst (ct 1, _) (List.mem_of_getElem? (i := 0) rfl)
      | 8, _, _ => exact hst (ct 2, _) (List.mem_of_getElem? (i := 1) rfl)
      | 9, _, _ => exact hst (ct 3, _) (List.mem_of_getElem? (i := 2) rfl)
      | 10, _, _ => exact hst (ct 4, _) (List.mem_of_getElem? (i := 3) rfl)
      | 11, _, _ => exact hst (ct 4, _) (List.mem_of_getElem? (i := 3) rfl)
      | 12, _, _ => exact hst (ct 4, _) (List.mem_of_getElem? (i := 3) rfl)
      | 13, _, _ => exact hst (ct 4, _) (List.mem_of_getElem? (i := 3) rfl)
      | 14, _, _ => exact hst (ct 4, _) (List.mem_of_getElem? (i := 3) rfl)
      | 15, _, _ => exact hst (ct 4, _) (List.mem_of_getElem? (i := 3) rfl)
      | 16, _, _ => exact hst (ct 10, _) (List.mem_of_getElem? (i := 4) rfl)
      | 17, _, _ => exact hst (ct 11, _) (List.mem_of_getElem? (i := 5) rfl)
      | 18, _, _ => exact hst (ct 12, _) (List.mem_of_getElem? (i := 6) rfl)
      | 19, _, h => exact absurd rfl h
      | 20, _, _ => exact hra (cr 1, _) (List.mem_of_getElem? (i := 0) rfl)
      | 21, _, _ => exact hra (cr 2, _) (List.mem_of_getElem? (i := 1) rfl)
      | 22, _, _ => exact hra (cr 3, _) (List.mem_of_getElem? (i := 2) rfl)
      | 23, _, _ => exact hra (cr 4, _) (List.mem_of_getElem? (i := 3) rfl)
      | k + 24, h, _ => exact absurd h (by omega)
end AP
theorem wdF_at : ∀ (n k : Nat), k < n → wdF n k = wdT k
  | 0, k, h => absurd h (Nat.not_lt_zero k)
  | n + 1, k, h => by
    unfold wdF
    by_cases e : k = n
    · subst e
      simp [upd]
    · have := wdF_at n k (by omega)
      simp only [upd, e, if_false]
      exact this
def N0 : Net := (4, 0, fun _ => 0, fun _ => 0, fun _ => 0, fun _ => 0, fun _ => 0, fun _ => false)
theorem IN0 : IN N0 σ0 0 0 0 := by
  refine ⟨⟨by decide, by decide, by decide, fun i _ => ⟨show (-99 : Int) ≤ 0 by decide, show (0 : Int) ≤ 99 by decide⟩, fun l h => absurd h (Nat.not_lt_zero l)⟩, ⟨rfl, rfl, fun i _ => rfl, fun l h => absurd h (Nat.not_lt_zero l)⟩, ⟨rfl, rfl, fun i hi => ?_, fun l h => absurd h (Nat.not_lt_zero l)⟩, ⟨0, 0, fun _ => N0, by decide, by decide, rfl, rfl, rfl, fun k h => absurd h (Nat.not_lt_zero k)⟩, ⟨rfl, rfl, rfl⟩, 0, by decide, rfl, rfl, fun k h => absurd h (Nat.not_lt_zero k), fun k hk => wdF_at 64 k hk⟩
  show upd (fun _ => 0) 0 4 (2 + i) = _
  simp only [upd, show ¬ (2 + i = 0) by omega, if_false]
  rfl
