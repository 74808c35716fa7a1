/-! fields, arrays, calls, ends -/
def ib (i : Int32) (n : Nat) : Bool := decide (¬ (i < 0 ∨ n ≤ i.toNatClampNeg))
theorem ib_in {i : Int32} {n : Nat} (h : ib i n = true) : vp_in i n := by unfold ib at h; have h2 := of_decide_eq_true h; exact h2
def Lnk (own : String) (idx : Nat) (q : String × String × String × Bool) : Prop := Cond.fieldLink own idx q.1 q.2.1 q.2.2.1 ∈ lw_g ∨ ∃ host, Cond.fieldLinkNest own idx q.1 q.2.1 q.2.2.1 host ∈ lw_n
def LkF (own : String) (idx ci k : Nat) : Prop := ∃ (C : String) (T : u_T) (N : Nat), cl7[ci]? = some (C, T, N) ∧ k < N ∧ Lnk own idx (T k)
def LkP (own : String) (idx ci k : Nat) (ty : FieldType) : Prop := ∃ (C : String) (T : u_T) (N : Nat), cl7[ci]? = some (C, T, N) ∧ k < N ∧ (T k).2.2.2 = false ∧ parseFieldDescriptor (T k).2.2.1 = some ty ∧ Lnk own idx (T k)
def CFa (C : String) (T : u_T) (N : Nat) : Prop := (∀ w ∈ u_ws C T N, w ∈ lw_g) ∧ (∃ ty0 : Nat → FieldType, ∀ k, k < N → parseFieldDescriptor (T k).2.2.1 = some (ty0 k)) ∧ ∀ a, a < N → ∀ b, b < N → a ≠ b → (T a).2.1 ≠ (T b).2.1
theorem in_gs {ws : List Cond} (h : ∀ w ∈ ws, w ∈ lw_tbl) (hg : ws.all goodWord = true) : ∀ w ∈ ws, w ∈ lw_g := fun w hw => in_g (h w hw) (List.all_eq_true.mp hg w hw)
theorem cf0 : CFa RX0 TX0 8 := ⟨in_gs (by decide +kernel) (by decide +kernel), ⟨tyX0, tyX0_ok⟩, nmX0⟩
theorem cf1 : CFa RX1 TX1 3 := ⟨in_gs (by decide +kernel) (by decide +kernel), ⟨tyX1, tyX1_ok⟩, nmX1⟩
theorem cf2 : CFa RX2 TX2 5 := ⟨in_gs (by decide +kernel) (by decide +kernel), ⟨tyX2, tyX2_ok⟩, nmX2⟩
theorem cf3 : CFa RX3 TX3 5 := ⟨in_gs (by decide +kernel) (by decide +kernel), ⟨tyX3, tyX3_ok⟩, nmX3⟩
theorem cf4 : CFa RX4 TX4 12 := ⟨in_gs (by decide +kernel) (by decide +kernel), ⟨tyX4, tyX4_ok⟩, nmX4⟩
theorem cf5 : CFa RX5 TX5 8 := ⟨in_gs (by decide +kernel) (by decide +kernel), ⟨tyX5, tyX5_ok⟩, nmX5⟩
theorem cf6 : CFa RX6 TX6 28 := ⟨in_gs (by decide +kernel) (by decide +kernel), ⟨tyX6, tyX6_ok⟩, nmX6⟩
theorem cfa : ∀ {ci : Nat} {C : String} {T : u_T} {N : Nat}, cl7[ci]? = some (C, T, N) → CFa C T N
  | 0, _, _, _, h => by cases h; exact cf0
  | 1, _, _, _, h => by cases h; exact cf1
  | 2, _, _, _, h => by cases h; exact cf2
  | 3, _, _, _, h => by cases h; exact cf3
  | 4, _, _, _, h => by cases h; exact cf4
  | 5, _, _, _, h => by cases h; exact cf5
  | 6, _, _, _, h => by cases h; exact cf6
  | n + 7, _, _, _, h => by simp [cl7] at h
theorem KA.one {cA : Nat → ClassId} {D : va_G} {s : State} {j : Nat} {ty : FieldType} (h : KA cA s) (hK : va_K D cl7 [] s) (hj : j < nW) (h0 : (kd j).1 ≠ 0) (ht : tyk (kd j) = ty) : va_K D cl7 [(cA j, ty)] s := by
  refine ⟨hK.1, fun k q hk => ?_⟩
  match k, hk with
  | 0, hk =>
    cases hk
    rw [← ht]
    exact h j hj h0
  | k + 1, hk => simp at hk
section RW
variable {Γ : Cxt} {own : String} {cc : ByteArray} {nL fr lo pc : Nat} {rt : Option FieldType} {L : List (Option Value)} {st : List Value} {σ : St}
theorem s_getI {idx id ci k n : Nat} {fs : List Nat} (G : OK Γ own cc nL rt fr lo) (hd : decode cc pc = .ok (.getfield idx, 3)) (hl : LkF own idx ci k) (hi : id < nW) (hk : kd id = (0, ci, fs)) (hf : fs[k]? = some 0) (kk : WW Γ (pc + 3) L (.int (σ.1 id k) :: st) σ) : WW Γ pc L (.ref id :: st) σ := by
  obtain ⟨p, l, e, R, s, m, args, below, meth, c, D, ad, cA, Q, nc, ns⟩ := Γ
  obtain ⟨hx, hb, hr, hml, hown, hts, hN, hK, hKA, hI, hlk, hStr, hR⟩ := G
  intro H locs ls hP hS hL
  obtain ⟨C, T, N, hc, hkN, hl⟩ := hl
  have he : (wS ad cA σ)[id]? = some (ad id, .inr (ci, fl ad (σ.1 id) (σ.2 id) 0 fs)) := by rw [wS_get hi]; unfold ceO mkC; rw [hk]; rfl
  have hv : (fl ad (σ.1 id) (σ.2 id) 0 fs)[k]? = some (.int (σ.1 id k)) := by have h9 := fl_getI (ad := ad) (f := σ.1 id) (g := σ.2 id) (k0 := 0) hf; first | exact h9 | (rw [Nat.zero_add] at h9; exact h9)
  rcases hl with h | ⟨host, h⟩
  · exact va_get hx hb hts (cfa hc).1 hown hK hP id he hc k hkN (hts _ h) (fun _ q => q) hv hd (kk H locs ls hP hS hL)
  · exact va_getN hx hb hts (cfa hc).1 hown hK hP id he hc k hkN ((hN _ h).use rfl) (fun _ q => q) hv hd (kk H locs ls hP hS hL)
theorem s_getL {idx id ci k n : Nat} {fs : List Nat} (G : OK Γ own cc nL rt fr lo) (hd : decode cc pc = .ok (.getfield idx, 3)) (hl : LkF own idx ci k) (hi : id < nW) (hk : kd id = (0, ci, fs)) (hf : fs[k]? = some 1) (kk : WW Γ (pc + 3) L (.long (σ.2 id k) :: st) σ) : WW Γ pc L (.ref id :: st) σ := by
  obtain ⟨p, l, e, R, s, m, args, below, meth, c, D, ad, cA, Q, nc, ns⟩ := Γ
  obtain ⟨hx, hb, hr, hml, hown, hts, hN, hK, hKA, hI, hlk, hStr, hR⟩ := G
  intro H locs ls hP hS hL
  obtain ⟨C, T, N, hc, hkN, hl⟩ := hl
  have he : (wS ad cA σ)[id]? = some (ad id, .inr (ci, fl ad (σ.1 id) (σ.2 id) 0 fs)) := by rw [wS_get hi]; unfold ceO mkC; rw [hk]; rfl
  have hv : (fl ad (σ.1 id) (σ.2 id) 0 fs)[k]? = some (.long (σ.2 id k)) := by have h9 := fl_getL (ad := ad) (f := σ.1 id) (g := σ.2 id) (k0 := 0) hf; first | exact h9 | (rw [Nat.zero_add] at h9; exact h9)
  rcases hl with h | ⟨host, h⟩
  · exact va_get hx hb hts (cfa hc).1 hown hK hP id he hc k hkN (hts _ h) (fun _ q => q) hv hd (kk H locs ls hP hS hL)
  · exact va_getN hx hb hts (cfa hc).1 hown hK hP id he hc k hkN ((hN _ h).use rfl) (fun _ q => q) hv hd (kk H locs ls hP hS hL)
theorem s_getR {idx id ci k n : Nat} {fs : List Nat} (G : OK Γ own cc nL rt fr lo) (hd : decode cc pc = .ok (.getfield idx, 3)) (hl : LkF own idx ci k) (hi : id < nW) (hk : kd id = (0, ci, fs)) (hf : fs[k]? = some (n + 2)) (kk : WW Γ (pc + 3) L (.ref n :: st) σ) : WW Γ pc L (.ref id :: st) σ := by
  obtain ⟨p, l, e, R, s, m, args, below, meth, c, D, ad, cA, Q, nc, ns⟩ := Γ
  obtain ⟨hx, hb, hr, hml, hown, hts, hN, hK, hKA, hI, hlk, hStr, hR⟩ := G
  intro H locs ls hP hS hL
  obtain ⟨C, T, N, hc, hkN, hl⟩ := hl
  have he : (wS ad cA σ)[id]? = some (ad id, .inr (ci, fl ad (σ.1 id) (σ.2 id) 0 fs)) := by rw [wS_get hi]; unfold ceO mkC; rw [hk]; rfl
  have hv : (fl ad (σ.1 id) (σ.2 id) 0 fs)[k]? = some (.ref (ad n)) := by have h9 := fl_getR (ad := ad) (f := σ.1 id) (g := σ.2 id) (k0 := 0) hf; first | exact h9 | (rw [Nat.zero_add] at h9; exact h9)
  rcases hl with h | ⟨host, h⟩
  · exact va_get hx hb hts (cfa hc).1 hown hK hP id he hc k hkN (hts _ h) (fun _ q => q) hv hd (kk H locs ls hP hS hL)
  · exact va_getN hx hb hts (cfa hc).1 hown hK hP id he hc k hkN ((hN _ h).use rfl) (fun _ q => q) hv hd (kk H locs ls hP hS hL)
theorem s_putI {idx id ci k : Nat} {fs : List Nat} {v : Int32} (G : OK Γ own cc nL rt fr lo) (hd : decode cc pc = .ok (.putfield idx, 3)) (hl : LkP own idx ci k .int) (hi : id < nW) (hk : kd id = (0, ci, fs)) (hf : fs[k]? = some 0) (kk : WW Γ (pc + 3) L st (sI σ id k v)) : WW Γ pc L (.int v :: .ref id :: st) σ := by
  obtain ⟨p, l, e, R, s, m, args, below, meth, c, D, ad, cA, Q, nc, ns⟩ := Γ
  obtain ⟨hx, hb, hr, hml, hown, hts, hN, hK, hKA, hI, hlk, hStr, hR⟩ := G
  intro H locs ls hP hS hL
  obtain ⟨C, T, N, hc, hkN, hfin, hty, hl⟩ := hl
  have he : (wS ad cA σ)[id]? = some (ad id, .inr (ci, fl ad (σ.1 id) (σ.2 id) 0 fs)) := by rw [wS_get hi]; unfold ceO mkC; rw [hk]; rfl
  have hlen : k < (fl ad (σ.1 id) (σ.2 id) 0 fs).length := by rw [fl_len]; exact (List.getElem?_eq_some_iff.mp hf).1
  obtain ⟨c1, ⟨ty0, c2⟩, c3⟩ := cfa hc
  have hset : (wS ad cA σ).set id (ad id, .inr (ci, (fl ad (σ.1 id) (σ.2 id) 0 fs).set k (.int v))) = wS ad cA (sI σ id k v) := by
    refine wS_set hi ?_ (fun j hj => ?_)
    · have h9 := fl_setI (ad := ad) (f := σ.1 id) (g := σ.2 id) (v := v) (k0 := 0) hf
      rw [Nat.zero_add] at h9
      unfold ceO mkC
      rw [hk, h9]
      rw [sI_same]; rfl
    · exact ⟨sI_ne σ k v hj, rfl⟩
  have fin : ∀ (H1 : Heap) (locs1 : List Loc), va_P D cl7 ((wS ad cA σ).set id (ad id, .inr (ci, (fl ad (σ.1 id) (σ.2 id) 0 fs).set k (.int v)))) H1 → va_D (Aw ad s.heap.size) ((wS ad cA σ).set id (ad id, .inr (ci, (fl ad (σ.1 id) (σ.2 id) 0 fs).set k (.int v)))) → va_S (Aw ad s.heap.size) s.heap H1 locs1 → W p l e R s m args below meth c H1 locs1 nc ns Q (F0 m (pc + 3) ls (st.map (cvv ad))) := by
    intro H1 locs1 hP1 _ hS1
    rw [hset] at hP1
    exact kk H1 locs1 ls hP1 hS1 hL
  rcases hl with h | ⟨host, h⟩
  · exact va_put (ty := .int) (v := .int v) hx hb hts c1 ty0 c2 c3 hown hK hP (wS_D hI) hS id he hc k hkN (hts _ h) (fun _ q => q) hfin hty rfl rfl hlen hd fin
  · exact va_putN (ty := .int) (v := .int v) hx hb hts c1 ty0 c2 c3 hown hK hP (wS_D hI) hS id he hc k hkN ((hN _ h).use rfl) (fun _ q => q) hfin hty rfl rfl hlen hd fin
theorem s_putL {idx id ci k : Nat} {fs : List Nat} {v : Int64} (G : OK Γ own cc nL rt fr lo) (hd : decode cc pc = .ok (.putfield idx, 3)) (hl : LkP own idx ci k .long) (hi : id < nW) (hk : kd id = (0, ci, fs)) (hf : fs[k]? = some 1) (kk : WW Γ (pc + 3) L st (sL σ id k v)) : WW Γ pc L (.long v :: .ref id :: st) σ := by
  obtain ⟨p, l, e, R, s, m, args, below, meth, c, D, ad, cA, Q, nc, ns⟩ := Γ
  obtain ⟨hx, hb, hr, hml, hown, hts, hN, hK, hKA, hI, hlk, hStr, hR⟩ := G
  intro H locs ls hP hS hL
  obtain ⟨C, T, N, hc, hkN, hfin, hty, hl⟩ := hl
  have he : (wS ad cA σ)[id]? = some (ad id, .inr (ci, fl ad (σ.1 id) (σ.2 id) 0 fs)) := by rw [wS_get hi]; unfold ceO mkC; rw [hk]; rfl
  have hlen : k < (fl ad (σ.1 id) (σ.2 id) 0 fs).length := by rw [fl_len]; exact (List.getElem?_eq_some_iff.mp hf).1
  obtain ⟨c1, ⟨ty0, c2⟩, c3⟩ := cfa hc
  have hset : (wS ad cA σ).set id (ad id, .inr (ci, (fl ad (σ.1 id) (σ.2 id) 0 fs).set k (.long v))) = wS ad cA (sL σ id k v) := by
    refine wS_set hi ?_ (fun j hj => ?_)
    · have h9 := fl_setL (ad := ad) (f := σ.1 id) (g := σ.2 id) (v := v) (k0 := 0) hf
      rw [Nat.zero_add] at h9
      unfold ceO mkC
      rw [hk, h9]
      rw [sL_same]; rfl
    · exact ⟨rfl, sL_ne σ k v hj⟩
  have fin : ∀ (H1 : Heap) (locs1 : List Loc), va_P D cl7 ((wS ad cA σ).set id (ad id, .inr (ci, (fl ad (σ.1 id) (σ.2 id) 0 fs).set k (.long v)))) H1 → va_D (Aw ad s.heap.size) ((wS ad cA σ).set id (ad id, .inr (ci, (fl ad (σ.1 id) (σ.2 id) 0 fs).set k (.long v)))) → va_S (Aw ad s.heap.size) s.heap H1 locs1 → W p l e R s m args below meth c H1 locs1 nc ns Q (F0 m (pc + 3) ls (st.map (cvv ad))) := by
    intro H1 locs1 hP1 _ hS1
    rw [hset] at hP1
    exact kk H1 locs1 ls hP1 hS1 hL
  rcases hl with h | ⟨host, h⟩
  · exact va_put (ty := .long) (v := .long v) hx hb hts c1 ty0 c2 c3 hown hK hP (wS_D hI) hS id he hc k hkN (hts _ h) (fun _ q => q) hfin hty rfl rfl hlen hd fin
  · exact va_putN (ty := .long) (v := .long v) hx hb hts c1 ty0 c2 c3 hown hK hP (wS_D hI) hS id he hc k hkN ((hN _ h).use rfl) (fun _ q => q) hfin hty rfl rfl hlen hd fin
theorem s_iald {id n : Nat} {fs : List Nat} {i : Int32} (G : OK Γ own cc nL rt fr lo) (hd : decode cc pc = .ok (.iaload, 1)) (hi : id < nW) (hk : kd id = (1, n, fs)) (hin : ib i n = true) (kk : WW Γ (pc + 1) L (.int (σ.1 id i.toNatClampNeg) :: st) σ) : WW Γ pc L (.int i :: .ref id :: st) σ := by
  obtain ⟨p, l, e, R, s, m, args, below, meth, c, D, ad, cA, Q, nc, ns⟩ := Γ
  obtain ⟨hx, hb, hr, hml, hown, hts, hN, hK, hKA, hI, hlk, hStr, hR⟩ := G
  intro H locs ls hP hS hL
  have he : (wS ad cA σ)[id]? = some (ad id, .inl (cA id, n, .inl (σ.1 id))) := by rw [wS_get hi]; unfold ceO mkC; rw [hk]; rfl
  have hK1 := hKA.one hK hi (ty := .int) (by rw [hk]; exact fun q => by cases q) (by rw [hk]; rfl)
  exact va_iald hx hb hK1 hP id 0 he rfl (ib_in hin) hd (kk H locs ls hP hS hL)
theorem s_zald {id n : Nat} {fs : List Nat} {i : Int32} (G : OK Γ own cc nL rt fr lo) (hd : decode cc pc = .ok (.baload, 1)) (hi : id < nW) (hk : kd id = (3, n, fs)) (hin : ib i n = true) (kk : WW Γ (pc + 1) L (.int (σ.1 id i.toNatClampNeg) :: st) σ) : WW Γ pc L (.int i :: .ref id :: st) σ := by
  obtain ⟨p, l, e, R, s, m, args, below, meth, c, D, ad, cA, Q, nc, ns⟩ := Γ
  obtain ⟨hx, hb, hr, hml, hown, hts, hN, hK, hKA, hI, hlk, hStr, hR⟩ := G
  intro H locs ls hP hS hL
  have he : (wS ad cA σ)[id]? = some (ad id, .inl (cA id, n, .inl (σ.1 id))) := by rw [wS_get hi]; unfold ceO mkC; rw [hk]; rfl
  have hK1 := hKA.one hK hi (ty := .boolean) (by rw [hk]; exact fun q => by cases q) (by rw [hk]; rfl)
  exact va_zald hx hb hK1 hP id 0 he rfl (ib_in hin) hd (kk H locs ls hP hS hL)
theorem s_lald {id n : Nat} {fs : List Nat} {i : Int32} (G : OK Γ own cc nL rt fr lo) (hd : decode cc pc = .ok (.laload, 1)) (hi : id < nW) (hk : kd id = (2, n, fs)) (hin : ib i n = true) (kk : WW Γ (pc + 1) L (.long (σ.2 id i.toNatClampNeg) :: st) σ) : WW Γ pc L (.int i :: .ref id :: st) σ := by
  obtain ⟨p, l, e, R, s, m, args, below, meth, c, D, ad, cA, Q, nc, ns⟩ := Γ
  obtain ⟨hx, hb, hr, hml, hown, hts, hN, hK, hKA, hI, hlk, hStr, hR⟩ := G
  intro H locs ls hP hS hL
  have he : (wS ad cA σ)[id]? = some (ad id, .inl (cA id, n, .inr (.inl (σ.2 id)))) := by rw [wS_get hi]; unfold ceO mkC; rw [hk]; rfl
  have hK1 := hKA.one hK hi (ty := .long) (by rw [hk]; exact fun q => by cases q) (by rw [hk]; rfl)
  exact va_lald hx hb hK1 hP id 0 he rfl (ib_in hin) hd (kk H locs ls hP hS hL)
theorem s_iast {id n : Nat} {fs : List Nat} {i : Int32} {x : Int32} (G : OK Γ own cc nL rt fr lo) (hd : decode cc pc = .ok (.iastore, 1)) (hi : id < nW) (hk : kd id = (1, n, fs)) (hin : ib i n = true) (kk : WW Γ (pc + 1) L st (sI σ id i.toNatClampNeg x)) : WW Γ pc L (.int x :: .int i :: .ref id :: st) σ := by
  obtain ⟨p, l, e, R, s, m, args, below, meth, c, D, ad, cA, Q, nc, ns⟩ := Γ
  obtain ⟨hx, hb, hr, hml, hown, hts, hN, hK, hKA, hI, hlk, hStr, hR⟩ := G
  intro H locs ls hP hS hL
  have he : (wS ad cA σ)[id]? = some (ad id, .inl (cA id, n, .inl (σ.1 id))) := by rw [wS_get hi]; unfold ceO mkC; rw [hk]; rfl
  have hK1 := hKA.one hK hi (ty := .int) (by rw [hk]; exact fun q => by cases q) (by rw [hk]; rfl)
  have hset : (wS ad cA σ).set id (ad id, .inl (cA id, n, .inl (upd (σ.1 id) i.toNatClampNeg x))) = wS ad cA (sI σ id i.toNatClampNeg x) := by
    refine wS_set hi ?_ (fun j hj => ?_)
    · unfold ceO mkC
      rw [hk, sI_same]
      rfl
    · exact ⟨sI_ne σ _ _ hj, rfl⟩
  exact va_iast hx hb hK1 hP (wS_D hI) hS id 0 he rfl (ib_in hin) hd (fun H1 locs1 hP1 _ hS1 => kk H1 locs1 ls (by rw [hset] at hP1; exact hP1) hS1 hL)
theorem s_zast {id n : Nat} {fs : List Nat} {i : Int32} {x : Int32} (G : OK Γ own cc nL rt fr lo) (hd : decode cc pc = .ok (.bastore, 1)) (hi : id < nW) (hk : kd id = (3, n, fs)) (hin : ib i n = true) (kk : WW Γ (pc + 1) L st (sI σ id i.toNatClampNeg (vp_nar .boolean x))) : WW Γ pc L (.int x :: .int i :: .ref id :: st) σ := by
  obtain ⟨p, l, e, R, s, m, args, below, meth, c, D, ad, cA, Q, nc, ns⟩ := Γ
  obtain ⟨hx, hb, hr, hml, hown, hts, hN, hK, hKA, hI, hlk, hStr, hR⟩ := G
  intro H locs ls hP hS hL
  have he : (wS ad cA σ)[id]? = some (ad id, .inl (cA id, n, .inl (σ.1 id))) := by rw [wS_get hi]; unfold ceO mkC; rw [hk]; rfl
  have hK1 := hKA.one hK hi (ty := .boolean) (by rw [hk]; exact fun q => by cases q) (by rw [hk]; rfl)
  have hset : (wS ad cA σ).set id (ad id, .inl (cA id, n, .inl (upd (σ.1 id) i.toNatClampNeg (vp_nar .boolean x)))) = wS ad cA (sI σ id i.toNatClampNeg (vp_nar .boolean x)) := by
    refine wS_set hi ?_ (fun j hj => ?_)
    · unfold ceO mkC
      rw [hk, sI_same]
      rfl
    · exact ⟨sI_ne σ _ _ hj, rfl⟩
  exact va_zast hx hb hK1 hP (wS_D hI) hS id 0 he rfl (ib_in hin) hd (fun H1 locs1 hP1 _ hS1 => kk H1 locs1 ls (by rw [hset] at hP1; exact hP1) hS1 hL)
theorem s_last {id n : Nat} {fs : List Nat} {i : Int32} {x : Int64} (G : OK Γ own cc nL rt fr lo) (hd : decode cc pc = .ok (.lastore, 1)) (hi : id < nW) (hk : kd id = (2, n, fs)) (hin : ib i n = true) (kk : WW Γ (pc + 1) L st (sL σ id i.toNatClampNeg x)) : WW Γ pc L (.long x :: .int i :: .ref id :: st) σ := by
  obtain ⟨p, l, e, R, s, m, args, below, meth, c, D, ad, cA, Q, nc, ns⟩ := Γ
  obtain ⟨hx, hb, hr, hml, hown, hts, hN, hK, hKA, hI, hlk, hStr, hR⟩ := G
  intro H locs ls hP hS hL
  have he : (wS ad cA σ)[id]? = some (ad id, .inl (cA id, n, .inr (.inl (σ.2 id)))) := by rw [wS_get hi]; unfold ceO mkC; rw [hk]; rfl
  have hK1 := hKA.one hK hi (ty := .long) (by rw [hk]; exact fun q => by cases q) (by rw [hk]; rfl)
  have hset : (wS ad cA σ).set id (ad id, .inl (cA id, n, .inr (.inl (vp_updL (σ.2 id) i.toNatClampNeg x)))) = wS ad cA (sL σ id i.toNatClampNeg x) := by
    refine wS_set hi ?_ (fun j hj => ?_)
    · unfold ceO mkC
      rw [hk, sL_same]
      rfl
    · exact ⟨rfl, sL_ne σ _ _ hj⟩
  exact va_last hx hb hK1 hP (wS_D hI) hS id 0 he rfl (ib_in hin) hd (fun H1 locs1 hP1 _ hS1 => kk H1 locs1 ls (by rw [hset] at hP1; exact hP1) hS1 hL)
theorem s_aald {id n b d t : Nat} {i : Int32} (G : OK Γ own cc nL rt fr lo) (hd : decode cc pc = .ok (.aaload, 1)) (hi : id < nW) (hk : kd id = (t + 4, n, [b, d])) (hin : ib i n = true) (kk : WW Γ (pc + 1) L (.ref (b + d * (i.toNatClampNeg + 1)) :: st) σ) : WW Γ pc L (.int i :: .ref id :: st) σ := by
  obtain ⟨p, l, e, R, s, m, args, below, meth, c, D, ad, cA, Q, nc, ns⟩ := Γ
  obtain ⟨hx, hb, hr, hml, hown, hts, hN, hK, hKA, hI, hlk, hStr, hR⟩ := G
  intro H locs ls hP hS hL
  have he : (wS ad cA σ)[id]? = some (ad id, .inl (cA id, n, .inr (.inr (.inr (.inr (fun k => some (ad (b + d * (k + 1)))))))))  := by rw [wS_get hi]; unfold ceO mkC; rw [hk]; rfl
  have hK1 := hKA.one hK hi (ty := tyk (kd id)) (by rw [hk]; exact Nat.succ_ne_zero _) rfl
  have hin2 : vp_in i n := ib_in hin
  have hlt : i.toNatClampNeg < n := Nat.not_le.mp fun q => hin2 (Or.inr q)
  have hre : (tyk (kd id)).isReference = true := by rw [hk]; unfold tyk; split <;> first | rfl | (next h => cases h)
  exact W.aald (v := .ref (ad (b + d * (i.toNatClampNeg + 1)))) (ty := tyk (kd id)) hx hb (hP id _ he) ((hK1.2 0 _ rfl).1 n (fun j => va_rf (some (ad (b + d * (j + 1)))))) hre (fun q => by cases q) (by show ¬ (i < 0 ∨ (arrV _ _ _).slots.size ≤ _); rw [arrV_size]; exact hin2) (by show (arrV _ _ _).slots[_]? = _; rw [arrV_read _ _ hlt]; rfl) rfl rfl hd (kk H locs ls hP hS hL)
end RW
/-! contracts -/
def Qm (D : va_G) (ad : Nat → Nat) (cA : Nat → ClassId) (r : Option Value) (σ' : St) (A : Nat → Prop) : Array Value → State → Outcome → State → Prop := fun _ st oc t => oc = .returned (r.map (cvv ad)) ∧ va_P D cl7 (wS ad cA σ') t.heap ∧ va_F A st t
def Pm (D : va_G) (ad : Nat → Nat) (cA : Nat → ClassId) (av : List Value) (σ : St) (sz : Nat) : Array Value → State → Prop := fun v U => v = (av.map (cvv ad)).toArray ∧ U.heap.size = sz ∧ va_P D cl7 (wS ad cA σ) U.heap ∧ va_K D cl7 [] U ∧ KA cA U ∧ NWs U ∧ Inj ad ∧ Str ad (Aw ad sz) U U.heap
def wU (y : MethodName) (cc : ByteArray) (nL : Nat) (rt : Option FieldType) : List Cond := .code y cc nL rt :: lw_g
/-- a method's description: its name, code, locals, answer, room -/
abbrev Me : Type := MethodName × ByteArray × Nat × Option FieldType × Nat × Nat
/-- THE CONTRACT: with these arguments in this store the method answers r, and the store is σ' -/
def Mt (M : Me) (av : List Value) (σ : St) (r : Option Value) (σ' : St) : Prop :=
  match M with
  | (y, cc, nL, rt, fr, lo) => ∀ (l : Launch) (D : va_G) (ad : Nat → Nat) (cA : Nat → ClassId) (sz : Nat), Met l y (wU y cc nL rt) { frames := fr, cells := 0, slots := 0, locals := lo } (Pm D ad cA av σ sz) (Qm D ad cA r σ' (Aw ad sz)) 0 0 (Aw ad sz)
def RetOK (Γ : Cxt) (r : Option Value) (σ' : St) : Prop :=
  match Γ with
  | (p, l, e, R, s, m, args, below, meth, c, D, ad, cA, Q, nc, ns) => Q = MQ below (Qm D ad cA r σ' (Aw ad s.heap.size)) args s nc ns (Aw ad s.heap.size)
theorem Str.same {ad : Nat → Nat} {A : Nat → Prop} {u U : State} {H : Heap} (hv : U.vm = u.vm) (h : Str ad A u H) : Str ad A U H := by
  obtain ⟨⟨h1, h3, h4⟩, h2⟩ := h
  have al : u.vm.Alike U.vm := by rw [hv]; exact Vm.Alike.refl _
  exact ⟨⟨vk_S.moved al h1, va_Z.moved al h3, h4.elim (fun h => Or.inl (va_Z.moved al h)) (fun h => Or.inr (va_Z.moved al h))⟩, fun i hi => vk_R.same hv (h2 i hi)⟩
theorem Pm_blind {D : va_G} {ad : Nat → Nat} {cA : Nat → ClassId} {av : List Value} {σ : St} {sz : Nat} : FrameBlind (Pm D ad cA av σ sz) := by
  intro a U g mk q
  obtain ⟨q0, q1, qP, qK, qA, qN, qI, qS⟩ := q
  exact ⟨q0, q1, qP, va_K.moved (u := U) (U := U.calling g mk a) (Vm.Alike.refl U.vm) qK, KA.moved (u := U) (U := U.calling g mk a) (Vm.Alike.refl U.vm) qA, NWs.same (u := U) (U := U.calling g mk a) rfl qN, qI, Str.same (u := U) (U := U.calling g mk a) rfl qS⟩
def L0 : List Value → Nat → List (Option Value)
  | [], n => List.replicate n none
  | v :: vs, n => if v.category = 2 then some v :: none :: L0 vs (n - 2) else some v :: L0 vs (n - 1)
theorem L0_in {ad : Nat → Nat} : ∀ {av : List Value} {n i k : Nat} {v : Value}, (L0 av n)[i]? = some (some v) → (k + i, cvv ad v) ∈ lv_args k (av.map (cvv ad))
  | [], n, i, k, v, h => by
    rw [L0, List.getElem?_replicate] at h
    split at h <;> simp at h
  | x :: vs, n, i, k, v, h => by
    unfold L0 at h
    by_cases hc : x.category = 2
    · rw [if_pos hc] at h
      match i, h with
      | 0, h =>
        cases h
        exact List.mem_cons_self
      | 1, h => simp at h
      | i + 2, h =>
        have h2 := L0_in (ad := ad) (k := k + 2) (av := vs) (by simpa using h)
        show _ ∈ _ :: lv_args (if (cvv ad x).category = 2 then k + 2 else k + 1) _
        rw [cvv_cat, if_pos hc, show k + (i + 2) = k + 2 + i by omega]
        exact List.mem_cons_of_mem _ h2
    · rw [if_neg hc] at h
      match i, h with
      | 0, h =>
        cases h
        exact List.mem_cons_self
      | i + 1, h =>
        have h2 := L0_in (ad := ad) (k := k + 1) (av := vs) (by simpa using h)
        show _ ∈ _ :: lv_args (if (cvv ad x).category = 2 then k + 2 else k + 1) _
        rw [cvv_cat, if_neg hc, show k + (i + 1) = k + 1 + i by omega]
        exact List.mem_cons_of_mem _ h2
def wds (av : List Value) : Nat := (av.map (fun v => if v.category = 2 then 2 else 1)).sum
theorem wds_len (ad : Nat → Nat) : ∀ av : List Value, (lg_sl (av.map (cvv ad))).length = wds av
  | [] => rfl
  | v :: vs => by
    have ih := wds_len ad vs
    unfold lg_sl wds at ih ⊢
    rw [List.map_cons, List.flatMap_cons, List.length_append, ih, List.map_cons, List.sum_cons, cvv_cat]
    by_cases h : v.category = 2
    · rw [if_pos h, if_pos h]; rfl
    · rw [if_neg h, if_neg h]; rfl
theorem mt_of {y : MethodName} {cc : ByteArray} {nL fr lo : Nat} {rt : Option FieldType} {av : List Value} {σ σ' : St} {r : Option Value} (hy : plainName y.cls = true) (hn : wds av ≤ nL) (L : List (Option Value)) (hL : L0 av nL = L) (body : ∀ Γ : Cxt, OK Γ y.cls cc nL rt fr lo → RetOK Γ r σ' → WW Γ 0 L [] σ) : Mt (y, cc, nL, rt, fr, lo) av σ r σ' := by
  intro l D ad cA sz
  refine Met.ofW (cc := cc) (maxL := nL) (ret := rt) hy rfl ?_
  intro p e s m args below meth c s₁ B hml hv
  obtain ⟨rfl, hsz, hP, hK, hA, hN, hI, hS⟩ := hv
  subst hsz
  have hts := atoms_spec (ws := wU y cc nL rt) B.pre
  have hown : s.vm.findClass y.cls = some m.cls := findClass_of_methodNamed B.named
  have hl := lv_entry (av.map (cvv ad)) (n := nL) (by rw [wds_len]; exact hn)
  rw [lg_entry_eq]
  have h1 := body (p, l, e, (headSpec (wU y cc nL rt) { frames := fr, cells := 0, slots := 0, locals := lo }).room, s, m, (av.map (cvv ad)).toArray, below, meth, c, D, ad, cA, MQ below (Qm D ad cA r σ' (Aw ad s.heap.size)) (av.map (cvv ad)).toArray s 0 0 (Aw ad s.heap.size), 0, 0) ⟨B.exec, B.bytes, B.returns, hml, hown, fun w hw => hts w (List.mem_cons_of_mem _ hw), hN, hK, hA, hI, B.notSynchronized, hS, Nat.le_refl _, Nat.le_refl _, Nat.zero_le _, Nat.zero_le _⟩ rfl
  refine h1 s.heap [] _ hP va_S.rf ⟨by rw [hml]; exact hl.1, hl.2.1, fun i v hv => ?_⟩
  rw [← hL] at hv
  have h2 := L0_in (ad := ad) (k := 0) hv
  rw [Nat.zero_add] at h2
  exact hl.2.2 _ h2
def LkM (own : String) (idx : Nat) (y : MethodName) : Prop := Cond.methodLink own idx y ∈ lw_g ∨ ∃ h, Cond.methodLinkNest own idx y h ∈ lw_n
/-- what the tables say of a method that is called -/
def Yok (y : MethodName) (cc : ByteArray) (nL : Nat) (rt : Option FieldType) (n : Nat) : Prop := Cond.code y cc nL rt ∈ lw_g ∧ Cond.initialized y.cls ∈ lw_g ∧ (y.cls ≠ "java/lang/invoke/MethodHandle" ∧ y.cls ≠ "java/lang/invoke/VarHandle") ∧ (parseMethodDescriptor y.desc).map (fun d => d.parameters.length) = some n
def YV (y : MethodName) : Prop := Cond.instanceMethod y ∈ lw_g ∧ Cond.selects y.cls y y ∈ lw_g
theorem wU_good {y : MethodName} {cc : ByteArray} {nL : Nat} {rt : Option FieldType} (h : Cond.code y cc nL rt ∈ lw_g) : GoodIn lw_g (wU y cc nL rt) := by
  intro w hw
  have hw2 : w ∈ lw_g := by
    rcases List.mem_cons.mp hw with e | e
    · rw [e]; exact h
    · exact e
  exact ⟨hw2, good_of_word (List.mem_filter.mp hw2).2⟩
section RC
variable {p : Program} {l : Launch} {e : Env} {R : Room} {s : State} {m : MethodId} {args : Array Value} {below : List Frame} {meth : Method} {c : Code} {H : Heap} {locs : List Loc} {nc ns : Nat} {Q : State → Prop}
theorem w_call {pc : Nat} {ls : Array Slot} {rest st0 : List Value} {a : Array Value} {D : va_G} {ad : Nat → Nat} {cA : Nat → ClassId} {r : Option Value} {σ' : St} (hr : va_Run p l e R s m args below meth c H locs nc ns 0 0 (F0 m pc ls st0) rest (Qm D ad cA r σ' (Aw ad H.size) a) (Aw ad H.size)) (hS : va_S (Aw ad s.heap.size) s.heap H locs)
    (kk : ∀ (H1 : Heap) (locs1 : List Loc), va_P D cl7 (wS ad cA σ') H1 → va_S (Aw ad s.heap.size) s.heap H1 locs1 → W p l e R s m args below meth c H1 locs1 nc ns Q (F0 m (pc + 3) ls ((r.map (cvv ad)).toList ++ rest))) : W p l e R s m args below meth c H locs nc ns Q (F0 m pc ls st0) := by
  have hA : ∀ q : Nat, Aw ad H.size q → Aw ad s.heap.size q := fun q h => h.elim Or.inl (fun h => Or.inr (Nat.le_trans hS.1 h))
  intro T hT X
  obtain ⟨v, st₀, t, T', L, h0, X', hL, e1, e2, ⟨hv, hP1, hz, hk⟩, st⟩ := hr T hT X
  cases hv
  rw [h0] at hz hk
  obtain ⟨t2, a1, b1⟩ := kk T'.heap (locs ++ L) (by rw [e1]; exact hP1)
    ⟨Nat.le_trans hS.1 (by rw [e1]; exact hz), fun q h1 h2 => by rw [e1, hk q (Nat.lt_of_lt_of_le h1 hS.1) (fun z => h2 (hA q z))]; exact hS.2.1 q h1 h2, fun q hq => by
      rcases List.mem_append.mp hq with h | h
      · exact hS.2.2 q h
      · exact hA _ (hL q h)⟩ T' rfl X'
  exact ⟨t2, st t2 a1, b1⟩
theorem w_pre {D : va_G} {ad : Nat → Nat} {cA : Nat → ClassId} {av : List Value} {σ : St} (hP : va_P D cl7 (wS ad cA σ) H) (hS : va_S (Aw ad s.heap.size) s.heap H locs) (hN : NWs s) (hK : va_K D cl7 [] s) (hKA : KA cA s) (hI : Inj ad) (hStr : Str ad (Aw ad s.heap.size) s s.heap) : ∀ U : State, U.heap = H → s.WarmedH U.vm → Pm D ad cA av σ H.size (av.map (cvv ad)).toArray U := by
  intro U hU hW
  refine ⟨rfl, by rw [hU], by rw [hU]; exact hP, va_K.moved hW.alike hK, hKA.moved hW.alike, hN.warm hW, hI, ?_, fun i hi => vk_R.warm hW (hStr.2 i hi)⟩
  obtain ⟨h1, h3, h4⟩ := hStr.1
  rw [hU]
  have na : ∀ q, Aw ad H.size q → Aw ad s.heap.size q := fun q h => h.elim Or.inl (fun h => Or.inr (Nat.le_trans hS.1 h))
  exact ⟨vk_S.narrow (vk_S.moved hW.alike (vk_S.kept h1 hS.2.1)) na, va_Z.narrow (va_Z.moved hW.alike (va_Z.kept h3 hS.2.1)) na, h4.elim (fun h => Or.inl (va_Z.narrow (va_Z.moved hW.alike (va_Z.kept h hS.2.1)) na)) (fun h => Or.inr (va_Z.narrow (va_Z.moved hW.alike (va_Z.kept h hS.2.1)) na))⟩
end RC
section RW
variable {Γ : Cxt} {own : String} {cc cc2 : ByteArray} {nL fr lo pc nL2 fr2 lo2 n idx : Nat} {rt rt2 : Option FieldType} {L : List (Option Value)} {st rest As : List Value} {σ σ' : St} {r : Option Value} {y : MethodName}
theorem cats (ad : Nat → Nat) (v : List Value) : ((v.map (cvv ad)).map fun v => v.category).sum = (v.map fun v => v.category).sum := by
  rw [List.map_map]
  exact congrArg List.sum (List.map_congr_left (fun x _ => cvv_cat ad x))
theorem s_callV {b ci : Nat} {fs : List Nat} {T : u_T} {N : Nat} (G : OK Γ own cc nL rt fr lo) (hd : decode cc pc = .ok (.invokevirtual idx, 3)) (hM : Mt (y, cc2, nL2, rt2, fr2, lo2) (.ref b :: As) σ r σ') (hl : LkM own idx y) (hY : Yok y cc2 nL2 rt2 n) (hV : YV y) (hb0 : b < nW) (hk : kd b = (0, ci, fs)) (hcl : cl7[ci]? = some (y.cls, T, N)) (As' : List Value) (rest : List Value) (hAs : As' = As) (hn : As.length = n) (hst : st = As.reverse ++ .ref b :: rest) (hcat : (rest.map fun v => v.category).sum ≤ 8) (hro : fr2 + 1 ≤ fr ∧ 8 + (nL2 + 11) + lo2 ≤ lo) (kk : WW Γ (pc + 3) L (r.toList ++ rest) σ') : WW Γ pc L st σ := by
  subst hst
  obtain ⟨p, l, e, R, s, m, args, below, meth, c, D, ad, cA, Q, nc, ns⟩ := Γ
  obtain ⟨hx, hb, hr, hml, hown, hts, hN, hK, hKA, hI, hlk, hStr, hR⟩ := G
  obtain ⟨hY1, hY2, hY3, hY4⟩ := hY
  intro H locs ls hP hS hL
  have hS9 := hL.1
  have hm := hM l D ad cA H.size
  have hG := wU_good hY1
  have hpay := pay_in hts hG
  have hpar : ∀ sig, parseMethodDescriptor y.desc = some sig → n = sig.parameters.length := fun sig h => by rw [h] at hY4; exact (Option.some.inj hY4).symm
  have hcat2 : 2 * (F0 m pc ls ((As.reverse ++ .ref b :: rest).map (cvv ad))).monitorRoom + ((rest.map (cvv ad)).map fun v => v.category).sum ≤ 8 := lv_room (by rw [cats]; exact hcat)
  have hfin : ∀ (H1 : Heap) (locs1 : List Loc), va_P D cl7 (wS ad cA σ') H1 → va_S (Aw ad s.heap.size) s.heap H1 locs1 → W p l e R s m args below meth c H1 locs1 nc ns Q (F0 m (pc + 3) ls ((r.map (cvv ad)).toList ++ rest.map (cvv ad))) := by
    intro H1 locs1 hP1 hS1
    have h9 := kk H1 locs1 ls hP1 hS1 hL
    rw [List.map_append] at h9
    cases r <;> exact h9
  have hstk : (As.reverse ++ .ref b :: rest).map (cvv ad) = (As.map (cvv ad)).reverse ++ .ref (ad b) :: rest.map (cvv ad) := by rw [List.map_append, List.map_reverse]; try rfl
  have hlen : (As.map (cvv ad)).length = n := by rw [List.length_map]; exact hn
  have hro1 : fr2 + 1 ≤ R.frames := Nat.le_trans hro.1 hR.1
  have hro2 : 8 + (nL2 + 11) + lo2 ≤ R.locals := Nat.le_trans hro.2 hR.2.1
  have hcode := hts _ hY1
  have hini := hts _ hY2
  have hrec : ∃ cellB : Cell, H[ad b]? = some cellB ∧ cellB.vm.isStatics = false ∧ s.vm.findClass y.cls = some cellB.cls := by
    have he : (wS ad cA σ)[b]? = some (ad b, .inr (ci, fl ad (σ.1 b) (σ.2 b) 0 fs)) := by rw [wS_get hb0]; unfold ceO mkC; rw [hk]; rfl
    exact va_recv hK hP hcl he
  rcases hl with h | ⟨host, h⟩
  · exact w_call (va_runV (As := As.map (cvv ad)) (rest := rest.map (cvv ad)) (Ts := lw_g) (C := y.cls) ⟨hx, hb, rfl, hown, hts⟩ hm ⟨⟨rfl, rfl, hro1, hro2, hpay, List.mem_cons_self, hcode, hini, hY3, hpar, hts _ h⟩, hts _ hV.1, hts _ hV.2⟩ ⟨Pm_blind, hrec, w_pre (av := .ref b :: As) hP hS hN hK hKA hI hStr⟩ rfl hlen hS9 hstk hcat2 hd ⟨hR.2.2.1, hR.2.2.2⟩) hS hfin
  · exact w_call (va_runVN (As := As.map (cvv ad)) (rest := rest.map (cvv ad)) (Ts := lw_g) (C := y.cls) ⟨hx, hb, rfl, hown, hts⟩ hm ⟨⟨⟨rfl, rfl, hro1, hro2, hpay, List.mem_cons_self⟩, hcode, hini, hY3, hpar, (hN _ h).use rfl⟩, hts _ hV.1, hts _ hV.2⟩ ⟨Pm_blind, hrec, w_pre (av := .ref b :: As) hP hS hN hK hKA hI hStr⟩ rfl hlen hS9 hstk hcat2 hd ⟨hR.2.2.1, hR.2.2.2⟩) hS hfin
theorem s_callS (G : OK Γ own cc nL rt fr lo) (hd : decode cc pc = .ok (.invokestatic idx, 3)) (hM : Mt (y, cc2, nL2, rt2, fr2, lo2) As σ r σ') (hl : LkM own idx y) (hY : Yok y cc2 nL2 rt2 n) (hV : Cond.static y ∈ lw_g) (As' : List Value) (rest : List Value) (hAs : As' = As) (hn : As.length = n) (hst : st = As.reverse ++ rest) (hcat : (rest.map fun v => v.category).sum ≤ 8) (hro : fr2 + 1 ≤ fr ∧ 8 + (nL2 + 11) + lo2 ≤ lo) (kk : WW Γ (pc + 3) L (r.toList ++ rest) σ') : WW Γ pc L st σ := by
  subst hst
  obtain ⟨p, l, e, R, s, m, args, below, meth, c, D, ad, cA, Q, nc, ns⟩ := Γ
  obtain ⟨hx, hb, hr, hml, hown, hts, hN, hK, hKA, hI, hlk, hStr, hR⟩ := G
  obtain ⟨hY1, hY2, hY3, hY4⟩ := hY
  intro H locs ls hP hS hL
  have hS9 := hL.1
  have hm := hM l D ad cA H.size
  have hG := wU_good hY1
  have hpay := pay_in hts hG
  have hpar : ∀ sig, parseMethodDescriptor y.desc = some sig → n = sig.parameters.length := fun sig h => by rw [h] at hY4; exact (Option.some.inj hY4).symm
  have hcat2 : 2 * (F0 m pc ls ((As.reverse ++ rest).map (cvv ad))).monitorRoom + ((rest.map (cvv ad)).map fun v => v.category).sum ≤ 8 := lv_room (by rw [cats]; exact hcat)
  have hfin : ∀ (H1 : Heap) (locs1 : List Loc), va_P D cl7 (wS ad cA σ') H1 → va_S (Aw ad s.heap.size) s.heap H1 locs1 → W p l e R s m args below meth c H1 locs1 nc ns Q (F0 m (pc + 3) ls ((r.map (cvv ad)).toList ++ rest.map (cvv ad))) := by
    intro H1 locs1 hP1 hS1
    have h9 := kk H1 locs1 ls hP1 hS1 hL
    rw [List.map_append] at h9
    cases r <;> exact h9
  have hstk : (As.reverse ++ rest).map (cvv ad) = (As.map (cvv ad)).reverse ++ rest.map (cvv ad) := by rw [List.map_append, List.map_reverse]; try rfl
  have hlen : (As.map (cvv ad)).length = n := by rw [List.length_map]; exact hn
  have hro1 : fr2 + 1 ≤ R.frames := Nat.le_trans hro.1 hR.1
  have hro2 : 8 + (nL2 + 11) + lo2 ≤ R.locals := Nat.le_trans hro.2 hR.2.1
  have hcode := hts _ hY1
  have hini := hts _ hY2
  rcases hl with h | ⟨host, h⟩
  · exact w_call (va_runS (As := As.map (cvv ad)) (rest := rest.map (cvv ad)) (Ts := lw_g) ⟨hx, hb, rfl, hown, hts⟩ hm ⟨⟨rfl, rfl, hro1, hro2, hpay, List.mem_cons_self, hcode, hini, hY3, hpar, hts _ h⟩, hts _ hV⟩ ⟨Pm_blind, w_pre (av := As) hP hS hN hK hKA hI hStr⟩ rfl hlen hS9 hstk hcat2 hd ⟨hR.2.2.1, hR.2.2.2⟩) hS hfin
  · exact w_call (va_runSN (As := As.map (cvv ad)) (rest := rest.map (cvv ad)) (Ts := lw_g) ⟨hx, hb, rfl, hown, hts⟩ hm ⟨⟨⟨rfl, rfl, hro1, hro2, hpay, List.mem_cons_self⟩, hcode, hini, hY3, hpar, (hN _ h).use rfl⟩, hts _ hV, trivial⟩ ⟨Pm_blind, w_pre (av := As) hP hS hN hK hKA hI hStr⟩ rfl hlen hS9 hstk hcat2 hd ⟨hR.2.2.1, hR.2.2.2⟩) hS hfin
theorem s_iret {v : Int32} (G : OK Γ own cc nL (some .int) fr lo) (hR0 : RetOK Γ r σ') (hd : decode cc pc = .ok (.ireturn, 1)) (hr0 : (some (.int v)) = r) (hs0 : σ = σ') : WW Γ pc L [.int v] σ := by
  obtain ⟨p, l, e, R, s, m, args, below, meth, c, D, ad, cA, Q, nc, ns⟩ := Γ
  obtain ⟨hx, hb, hr, hml, hown, hts, hN, hK, hKA, hI, hlk, hStr, hR⟩ := G
  subst hr0
  subst hs0
  intro H locs ls hP hS hL
  rw [show Q = _ from hR0]
  exact W.iret (v := v) hx hb hr (fun t ht hW => ⟨rfl, by rw [ht]; exact hP, hS.F ht⟩) hS.2.2 hd hlk
theorem s_lret {v : Int64} (G : OK Γ own cc nL (some .long) fr lo) (hR0 : RetOK Γ r σ') (hd : decode cc pc = .ok (.lreturn, 1)) (hr0 : (some (.long v)) = r) (hs0 : σ = σ') : WW Γ pc L [.long v] σ := by
  obtain ⟨p, l, e, R, s, m, args, below, meth, c, D, ad, cA, Q, nc, ns⟩ := Γ
  obtain ⟨hx, hb, hr, hml, hown, hts, hN, hK, hKA, hI, hlk, hStr, hR⟩ := G
  subst hr0
  subst hs0
  intro H locs ls hP hS hL
  rw [show Q = _ from hR0]
  exact W.lret (v := v) hx hb hr (fun t ht hW => ⟨rfl, by rw [ht]; exact hP, hS.F ht⟩) hS.2.2 hd hlk
theorem s_vret  (G : OK Γ own cc nL none fr lo) (hR0 : RetOK Γ r σ') (hd : decode cc pc = .ok (.return_, 1)) (hr0 : none = r) (hs0 : σ = σ') : WW Γ pc L [] σ := by
  obtain ⟨p, l, e, R, s, m, args, below, meth, c, D, ad, cA, Q, nc, ns⟩ := Γ
  obtain ⟨hx, hb, hr, hml, hown, hts, hN, hK, hKA, hI, hlk, hStr, hR⟩ := G
  subst hr0
  subst hs0
  intro H locs ls hP hS hL
  rw [show Q = _ from hR0]
  exact W.vret hx hb hr (fun t ht hW => ⟨rfl, by rw [ht]; exact hP, hS.F ht⟩) hS.2.2 hd hlk
theorem s_zret {v : Int32} (G : OK Γ own cc nL (some .boolean) fr lo) (hR0 : RetOK Γ r σ') (hd : decode cc pc = .ok (.ireturn, 1)) (hn : decide (v = 0 ∨ v = 1) = true) (hr0 : (some (.int v)) = r) (hs0 : σ = σ') : WW Γ pc L [.int v] σ := by
  obtain ⟨p, l, e, R, s, m, args, below, meth, c, D, ad, cA, Q, nc, ns⟩ := Γ
  obtain ⟨hx, hb, hr, hml, hown, hts, hN, hK, hKA, hI, hlk, hStr, hR⟩ := G
  subst hr0
  subst hs0
  intro H locs ls hP hS hL
  rw [show Q = _ from hR0]
  have hn2 : narrow .boolean (.int v) = .int v := by rcases of_decide_eq_true hn with h | h <;> rw [h] <;> rfl
  exact W.zret (v := v) hx hb hr hn2 (fun t ht hW => ⟨rfl, by rw [ht]; exact hP, hS.F ht⟩) hS.2.2 hd hlk
theorem s_aret {v : Nat} {C : String} (G : OK Γ own cc nL (some (.object C)) fr lo) (hR0 : RetOK Γ r σ') (hd : decode cc pc = .ok (.areturn, 1)) (hr0 : (some (.ref v)) = r) (hs0 : σ = σ') : WW Γ pc L [.ref v] σ := by
  obtain ⟨p, l, e, R, s, m, args, below, meth, c, D, ad, cA, Q, nc, ns⟩ := Γ
  obtain ⟨hx, hb, hr, hml, hown, hts, hN, hK, hKA, hI, hlk, hStr, hR⟩ := G
  subst hr0
  subst hs0
  intro H locs ls hP hS hL
  rw [show Q = _ from hR0]
  exact W.aret (v := .ref (ad v)) hx hb hr (Or.inl ⟨_, rfl⟩) (Or.inr ⟨_, rfl⟩) (fun t ht hW => ⟨rfl, by rw [ht]; exact hP, hS.F ht⟩) hS.2.2 hd hlk
end RW
/-! what the walks and the functions share -/
def nm {α β : Type} (a : α) (k : α → β) : β := k a
def chk {α : Type} (b : Bool) (x : Option α) : Option α := if b = true then x else none
def jn {α β : Type} (k : α → β) (b : (α → β) → β) : β := b k
theorem nm_at {α β : Type} {a x : α} {k : α → β} {r : β} (e : x = a) (h : nm a k = r) : k x = r := by rw [e]; exact h
theorem chk_1 {α : Type} {b : Bool} {x : Option α} {r : α} (h : chk b x = some r) : b = true := by
  unfold chk at h
  split at h
  · assumption
  · cases h
theorem chk_2 {α : Type} {b : Bool} {x : Option α} {r : α} (h : chk b x = some r) : x = some r := by
  unfold chk at h
  split at h
  · exact h
  · cases h
theorem ifp {α : Type} {c : Prop} {d : Decidable c} {A B r : α} (h : c) (hf : (if c then A else B) = r) : A = r := by rw [if_pos h] at hf; exact hf
theorem ifn {α : Type} {c : Prop} {d : Decidable c} {A B r : α} (h : ¬ c) (hf : (if c then A else B) = r) : B = r := by rw [if_neg h] at hf; exact hf
theorem bnd {α β : Type} {x : Option α} {k : α → Option β} {r : β} (h : x.bind k = some r) : ∃ y, x = some y ∧ k y = some r := by
  cases x with
  | none => cases h
  | some y => exact ⟨y, rfl, h⟩
theorem jn_w {α β : Type} {k : α → Option β} {b : (α → Option β) → Option β} {r : β} (P : α → Prop) {Q : Prop} (hf : jn k b = some r) (h1 : ∀ q, k q = some r → P q) (h2 : ∀ j : α → Option β, (∀ q, j q = some r → P q) → b j = some r → Q) : Q := h2 k h1 hf

