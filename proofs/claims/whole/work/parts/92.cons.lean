/-! constructors: Past, Study, OutageScreen (wip/whole/gen/mk92.py) -/
def GrF (G : Nat → Nat → Nat) (C : Nat → Nat → ClassId) : Nat → va_W
  | 0 => []
  | i + 1 => GrF G C i ++ GrW (G (i + 1)) (C (i + 1))
def GrFT (C : Nat → Nat → ClassId) : Nat → Tys
  | 0 => []
  | i + 1 => GrFT C i ++ GrT (C (i + 1))
theorem GrF_cg {G G' : Nat → Nat → Nat} {C C' : Nat → Nat → ClassId} : ∀ {i : Nat}, (∀ j, 1 ≤ j → j ≤ i → G j = G' j ∧ C j = C' j) → GrF G C i = GrF G' C' i ∧ GrFT C i = GrFT C' i
  | 0, _ => ⟨rfl, rfl⟩
  | i + 1, h => by
    have a := GrF_cg (G := G) (G' := G') (C := C) (C' := C') (i := i) (fun j h1 h2 => h j h1 (by omega))
    have b := h (i + 1) (by omega) (Nat.le_refl _)
    exact ⟨by rw [GrF, GrF, a.1, b.1, b.2], by rw [GrFT, GrFT, a.2, b.2]⟩
def PaP (h0 : Nat) : MkP := fun w tys => ∃ (a : Nat) (ca : ClassId) (G : Nat → Nat → Nat) (C : Nat → Nat → ClassId) (f : Nat → Option Nat), w = (h0, .inr (1, [.ref a, .int 0, .int 0])) :: (a, .inl (ca, 8, .inr (.inr (.inr (.inr f))))) :: GrF G C 8 ∧ tys = (ca, .object "OutageScreen$Grid") :: GrFT C 8 ∧ ∀ j, j < 8 → f j = some (G (j + 1) 0)
set_option maxRecDepth 100000 in
set_option maxHeartbeats 4000000 in
theorem c_X1_init : Mk (yX1_init, cX1_init, 2, none, 2, 40) 1 [.null, .int 0, .int 0] [] 57 520 PaP := by
  refine mk_of (by decide) rfl (fun _ => Nat.le_of_ble_eq_true rfl) (fun Γ h0 G hI hR => ?_)
  have G : OKc Γ RX1 cX1_init 2 2 40 57 520 := G
  refine k_aload G dX1_init_0 rfl 0 rfl ?_
  refine k_oi G oi_X1 oi_i oi_c dX1_init_1 (by decide) (Nat.le_of_ble_eq_true rfl) ?_
  refine k_aload G dX1_init_4 rfl 0 rfl ?_
  refine k_bip (v := 8) G dX1_init_5 rfl ?_
  refine k_newq G (in_g (List.mem_of_getElem? (i := 140) (by decide +kernel)) rfl) 8 (by decide) rfl (by decide) (Nat.le_of_ble_eq_true rfl) (Nat.le_of_ble_eq_true rfl) dX1_init_7 (fun a ca => ?_)
  refine k_putF G hI 0 rfl rfl 0 (by decide) (in_g (List.mem_of_getElem? (i := 143) (by decide +kernel)) rfl) rfl rfl (ty := .array (.object "OutageScreen$Grid")) (by decide +kernel) rfl rfl (Nat.le_of_ble_eq_true rfl) dX1_init_10 [(h0, .inr (1, [.ref a, .int 0, .int 0])), (a, .inl (ca, 8, .inr (.inr (.inr (.inr (fun _ => none))))))] rfl ?_
  refine k_icst (v := 0) G dX1_init_13 rfl ?_
  refine k_istore (L' := [(1, .int 0), (0, .ref h0)]) G dX1_init_14 rfl (by decide) rfl ?_
  have loop : ∀ (d i : Nat) (Gf : Nat → Nat → Nat) (C : Nat → Nat → ClassId) (f : Nat → Option Nat), i + d = 8 → (∀ j, j < i → f j = some (Gf (j + 1) 0)) → YW Γ 15 [(1, .int (nI i)), (0, .ref h0)] [] ((h0, .inr (1, [.ref a, .int 0, .int 0])) :: (a, .inl (ca, 8, .inr (.inr (.inr (.inr f))))) :: GrF Gf C i) ((ca, .object "OutageScreen$Grid") :: GrFT C i) (1 + 7 * i) (8 + 64 * i) := by
    intro d
    induction d with
    | zero =>
      intro i Gf C f hd hf
      have e : i = 8 := by omega
      subst e
      refine k_iload G dX1_init_15 rfl 0 rfl ?_
      refine k_bip (v := 8) G dX1_init_16 rfl ?_
      refine k_icge (tgt := 40) G dX1_init_18 (by decide) (fun _ => ?_) (fun c => absurd (nI_ge' (a := 8) (Nat.le_refl 8) (by omega)) c)
      exact k_vret G hR ⟨a, ca, Gf, C, f, rfl, rfl, hf⟩ dX1_init_40
    | succ d ih =>
      intro i Gf C f hd hf
      refine k_iload G dX1_init_15 rfl 0 rfl ?_
      refine k_bip (v := 8) G dX1_init_16 rfl ?_
      refine k_icge (tgt := 40) G dX1_init_18 (by decide) (fun c => absurd c (nI_nge' (a := 8) (by omega) (by omega))) (fun _ => ?_)
      refine k_aload G dX1_init_21 rfl 1 rfl ?_
      refine k_get G 0 rfl rfl 0 (by decide) (in_g (List.mem_of_getElem? (i := 143) (by decide +kernel)) rfl) rfl dX1_init_22 ?_
      refine k_iload G dX1_init_25 rfl 0 rfl ?_
      refine k_new G 0 rfl (in_g (List.mem_of_getElem? (i := 140) (by decide +kernel)) rfl) is_X0 in_X0 tyX0 tyX0_ok [.null, .null, .null, .null, .null, .null, .int 0, .int 0] (fun j hj => by rcases (show j = 0 ∨ j = 1 ∨ j = 2 ∨ j = 3 ∨ j = 4 ∨ j = 5 ∨ j = 6 ∨ j = 7 by omega) with rfl | rfl | rfl | rfl | rfl | rfl | rfl | rfl <;> rfl) (by omega) (by omega) dX1_init_26 (fun q => ?_)
      refine k_dup G dX1_init_29 rfl ?_
      refine k_call G dX1_init_30 c_X0_init lkM_X1_17 yk_X0_init ii_X0 rfl rfl [.ref q, .int (nI i), .ref a] rfl (Nat.le_of_ble_eq_true rfl) (by decide) ⟨by omega, by omega⟩ (fun w1 tys1 hp => ?_)
      obtain ⟨qf, cf, e0, rfl, rfl⟩ := hp
      subst e0
      refine k_ast (f := f) (vs := [.ref (qf 1), .ref (qf 2), .ref (qf 3), .ref (qf 4), .ref (qf 5), .ref (qf 6), .int 4, .int 0]) (r := (RX0, TX0, 8)) G 1 0 (2 + (GrF Gf C i).length) 0 rfl rfl ?_ rfl (ib_nI (by omega) (by omega)) dX1_init_33 ((h0, .inr (1, [.ref a, .int 0, .int 0])) :: (a, .inl (ca, 8, .inr (.inr (.inr (.inr (va_up f i (some (qf 0)))))))) :: (GrF Gf C i ++ GrW qf cf)) ?_ ?_
      · rw [List.getElem?_append_right (by simp; omega)]
        simp only [List.length_cons]
        rw [show 2 + (GrF Gf C i).length - ((GrF Gf C i).length + 1 + 1) = 0 by omega]
        rfl
      · rw [nI31 (by omega)]
        rfl
      · refine k_iinc (k := 0) (x := nI i) (v := nI (i + 1)) (L' := [(1, .int (nI (i + 1))), (0, .ref h0)]) G dX1_init_34 rfl (nI_add i 1) (by decide) rfl ?_
        refine k_goto (tgt := 15) G dX1_init_37 (by decide) ?_
        have cg := GrF_cg (G := Gf) (G' := fun γ => if γ = i + 1 then qf else Gf γ) (C := C) (C' := fun γ => if γ = i + 1 then cf else C γ) (i := i) (fun j h1 h2 => ⟨by rw [if_neg (by omega)], by rw [if_neg (by omega)]⟩)
        have nx := ih (i + 1) (fun γ => if γ = i + 1 then qf else Gf γ) (fun γ => if γ = i + 1 then cf else C γ) (va_up f i (some (qf 0))) (by omega) (fun j hj => by
          by_cases e : j = i
          · subst e
            rw [va_up_self, if_pos rfl]
          · rw [va_up_ne _ _ e, if_neg (by omega)]
            exact hf j (by omega))
        rw [GrF, GrFT, if_pos rfl, if_pos rfl, ← cg.1, ← cg.2] at nx
        rw [show 1 + 7 * i + 1 + 6 = 1 + 7 * (i + 1) by omega, show 8 + 64 * i + 8 + 56 = 8 + 64 * (i + 1) by omega]
        exact nx
  exact loop 8 0 (fun _ _ => 0) (fun _ _ => 0) (fun _ => none) (by omega) (fun j hj => absurd hj (Nat.not_lt_zero j))
/-- rows of longs, six of eight: made by one instruction -/
theorem k_multi {Γ : Cy} {cc : ByteArray} {nL fr lo NC NS pc nc ns idx : Nat} {L : List (Nat × Value)} {st : List Value} {ws : va_W} {tys : Tys} (G : OKc Γ RX4 cc nL fr lo NC NS) (hcl : Cond.classLink RX4 idx "[[J" ∈ lw_g) (hd : decode cc pc = .ok (.multianewarray idx 2, 4)) (h1 : nc + 7 ≤ NC) (h2 : ns + 54 ≤ NS)
    (kk : ∀ (q : Nat) (r : Nat → Nat) (cA cL : ClassId) (f : Nat → Option Nat), (∀ j, j < 6 → f j = some (r j)) → YW Γ (pc + 4) L (.ref q :: st) (ws ++ [(q, .inl (cA, 6, .inr (.inr (.inr (.inr f))))), (r 0, .inl (cL, 8, .inr (.inl (fun _ => 0)))), (r 1, .inl (cL, 8, .inr (.inl (fun _ => 0)))), (r 2, .inl (cL, 8, .inr (.inl (fun _ => 0)))), (r 3, .inl (cL, 8, .inr (.inl (fun _ => 0)))), (r 4, .inl (cL, 8, .inr (.inl (fun _ => 0)))), (r 5, .inl (cL, 8, .inr (.inl (fun _ => 0))))]) (tys ++ [(cA, .array .long), (cL, .long)]) (nc + 7) (ns + 54)) : YW Γ pc L (.int 8 :: .int 6 :: st) ws tys nc ns := by
  obtain ⟨p, l, e, R, s, m, args, below, meth, c, D, A, Q⟩ := Γ
  obtain ⟨hx, hb, hml, hown, hts, hN, hA, hR⟩ := G
  obtain ⟨comp, cA, kA, f1, f2, f3, f4⟩ := hN.2.2
  intro H locs ls hP hD hS hK hL
  refine w_multi hx hb hown (hts _ hcl) f1 f2 f3 f4 (hts _ ac_long) (g := F0 m pc ls (.int 8 :: .int 6 :: st)) rfl hd rfl (Nat.le_trans h1 hR.2.2.1) (Nat.le_trans h2 hR.2.2.2) (fun H1 locs1 z1 o1 r1 old l1 => ?_)
  obtain ⟨comp', kC, c0, g1, g2, g3⟩ := Cond.arrayClass_spec (hts _ ac_long)
  have ec : comp' = comp := Option.some.inj (g1.symm.trans f1)
  subst ec
  have hk : ∀ (k : Nat) (x : Nat × va_E), ws[k]? = some x → H1[x.1]? = H[x.1]? := fun k x hx => old x.1 ((hP k x hx).lt)
  generalize hW : ([(H.size, .inl (cA, 6, .inr (.inr (.inr (.inr (mu_f H.size 6)))))), (H.size + 1 + 0, .inl (comp', 8, .inr (.inl (fun _ => 0)))), (H.size + 1 + 1, .inl (comp', 8, .inr (.inl (fun _ => 0)))), (H.size + 1 + 2, .inl (comp', 8, .inr (.inl (fun _ => 0)))), (H.size + 1 + 3, .inl (comp', 8, .inr (.inl (fun _ => 0)))), (H.size + 1 + 4, .inl (comp', 8, .inr (.inl (fun _ => 0)))), (H.size + 1 + 5, .inl (comp', 8, .inr (.inl (fun _ => 0))))] : va_W) = wn
  have adr : ∀ (k : Nat) (x : Nat × va_E), wn[k]? = some x → x.1 = H.size + k ∧ va_at D cl7 x H1 := by
    intro k x hx
    rw [← hW] at hx
    match k, hx with
    | 0, hx => cases hx; exact ⟨rfl, o1⟩
    | 1, hx => cases hx; exact ⟨rfl, r1 0 (by omega)⟩
    | 2, hx => cases hx; exact ⟨rfl, r1 1 (by omega)⟩
    | 3, hx => cases hx; exact ⟨rfl, r1 2 (by omega)⟩
    | 4, hx => cases hx; exact ⟨rfl, r1 3 (by omega)⟩
    | 5, hx => cases hx; exact ⟨rfl, r1 4 (by omega)⟩
    | 6, hx => cases hx; exact ⟨rfl, r1 5 (by omega)⟩
    | k + 7, hx => simp at hx
  have hPn : va_P D cl7 wn H1 := fun k x hx => (adr k x hx).2
  have hDn : va_D A wn := ⟨fun i j a b ha hb2 e => by
      have q1 := (adr i a ha).1
      have q2 := (adr j b hb2).1
      omega, fun k x hx => hA _ (by rw [(adr k x hx).1]; exact Nat.le_trans hS.1 (by omega))⟩
  have hKn : va_K D cl7 [(cA, .array .long), (comp', .long)] s := ⟨hK.1, fun k q hq => by
    match k, hq with
    | 0, hq => cases hq; exact ⟨fun N z => ⟨(fun k h => by cases h), kA, f2, comp', f3⟩, f4⟩
    | 1, hq => cases hq; exact ⟨fun N z => ⟨(fun k h => by cases h), kC, g2, c0, g3⟩, f1⟩
    | k + 2, hq => simp at hq⟩
  have fin := kk H.size (fun j => H.size + 1 + j) cA comp' (mu_f H.size 6) (fun j hj => by unfold mu_f; rw [if_pos hj]) H1 locs1 ls
  rw [hW] at fin
  exact fin ((hP.kept hk).app hPn) (va_D.app hD hDn (fun i j a b ha hb2 => by
      have q1 := (hP i a ha).lt
      have q2 := (adr j b hb2).1
      omega)) ⟨Nat.le_trans hS.1 (by omega), fun x q1 q2 => (old x (Nat.lt_of_lt_of_le q1 hS.1)).trans (hS.2.1 x q1 q2), fun q hq => (l1 q hq).elim (hS.2.2 q) (fun h => by rw [h]; exact hA _ hS.1)⟩ (hK.app hKn) hL
def StW (g : Nat) (f : Nat → Option Nat) (q : Nat → Nat) (c : Nat → ClassId) : va_W := [(q 0, .inr (4, [.ref g, .ref (q 1), .ref (q 2), .ref (q 3), .ref (q 10), .ref (q 11), .ref (q 12), .long 1, .int (-1), .long 0, .long 1, .int 0])), (q 1, .inl (c 1, 10, .inl (fun _ => 0))), (q 2, .inl (c 2, 6, .inl (fun _ => 0))), (q 3, .inl (c 3, 6, .inr (.inr (.inr (.inr f))))), (q 4, .inl (c 4, 8, .inr (.inl (fun _ => 0)))), (q 5, .inl (c 4, 8, .inr (.inl (fun _ => 0)))), (q 6, .inl (c 4, 8, .inr (.inl (fun _ => 0)))), (q 7, .inl (c 4, 8, .inr (.inl (fun _ => 0)))), (q 8, .inl (c 4, 8, .inr (.inl (fun _ => 0)))), (q 9, .inl (c 4, 8, .inr (.inl (fun _ => 0)))), (q 10, .inl (c 10, 6, .inr (.inl (fun _ => 0)))), (q 11, .inl (c 11, 10, .inr (.inl (fun _ => 0)))), (q 12, .inl (c 12, 10, .inr (.inl (fun _ => 0))))]
def StT (c : Nat → ClassId) : Tys := [(c 1, .boolean), (c 2, .int), (c 3, .array .long), (c 4, .long), (c 10, .long), (c 11, .long), (c 12, .long)]
def StP (g : Nat) (h0 : Nat) : MkP := fun w tys => ∃ (f : Nat → Option Nat) (q : Nat → Nat) (c : Nat → ClassId), q 0 = h0 ∧ w = StW g f q c ∧ tys = StT c ∧ ∀ j, j < 6 → f j = some (q (4 + j))
set_option maxRecDepth 100000 in
set_option maxHeartbeats 4000000 in
theorem c_X4_init (g : Nat) : Mk (yX4_init, cX4_init, 2, none, 1, 20) 4 [.null, .null, .null, .null, .null, .null, .null, .long 0, .int 0, .long 0, .long 0, .int 0] [.ref g] 12 96 (StP g) := by
  refine mk_of (by decide) rfl (fun _ => Nat.le_of_ble_eq_true rfl) (fun Γ h0 G hI hR => ?_)
  have G : OKc Γ RX4 cX4_init 2 1 20 12 96 := G
  refine k_aload G dX4_init_0 rfl 0 rfl ?_
  refine k_oi G oi_X4 oi_i oi_c dX4_init_1 (by decide) (Nat.le_of_ble_eq_true rfl) ?_
  refine k_aload G dX4_init_4 rfl 0 rfl ?_
  refine k_bip (v := 10) G dX4_init_5 rfl ?_
  refine k_newa G .boolean rfl ac_boolean 10 (10, .inl (fun _ => 0)) (fun _ => rfl) (by decide) rfl (by decide) (Nat.le_of_ble_eq_true rfl) (Nat.le_of_ble_eq_true rfl) dX4_init_7 (fun q1 c1 => ?_)
  show YW Γ 9 [(0, .ref h0), (1, .ref g)] [.ref q1, .ref h0] [(h0, .inr (4, [.null, .null, .null, .null, .null, .null, .null, .long 0, .int 0, .long 0, .long 0, .int 0])), (q1, .inl (c1, 10, .inl (fun _ => 0)))] [(c1, .boolean)] 1 10
  refine k_putF G hI 0 rfl rfl 1 (by decide) (in_g (List.mem_of_getElem? (i := 188) (by decide +kernel)) rfl) rfl rfl (ty := .array .boolean) (by decide +kernel) rfl rfl (Nat.le_of_ble_eq_true rfl) dX4_init_9 [(h0, .inr (4, [.null, .ref q1, .null, .null, .null, .null, .null, .long 0, .int 0, .long 0, .long 0, .int 0])), (q1, .inl (c1, 10, .inl (fun _ => 0)))] rfl ?_
  refine k_aload G dX4_init_12 rfl 0 rfl ?_
  refine k_bip (v := 6) G dX4_init_13 rfl ?_
  refine k_newa G .int rfl ac_int 6 (6, .inl (fun _ => 0)) (fun _ => rfl) (by decide) rfl (by decide) (Nat.le_of_ble_eq_true rfl) (Nat.le_of_ble_eq_true rfl) dX4_init_15 (fun q2 c2 => ?_)
  show YW Γ 17 [(0, .ref h0), (1, .ref g)] [.ref q2, .ref h0] [(h0, .inr (4, [.null, .ref q1, .null, .null, .null, .null, .null, .long 0, .int 0, .long 0, .long 0, .int 0])), (q1, .inl (c1, 10, .inl (fun _ => 0))), (q2, .inl (c2, 6, .inl (fun _ => 0)))] [(c1, .boolean), (c2, .int)] 2 16
  refine k_putF G hI 0 rfl rfl 2 (by decide) (in_g (List.mem_of_getElem? (i := 189) (by decide +kernel)) rfl) rfl rfl (ty := .array .int) (by decide +kernel) rfl rfl (Nat.le_of_ble_eq_true rfl) dX4_init_17 [(h0, .inr (4, [.null, .ref q1, .ref q2, .null, .null, .null, .null, .long 0, .int 0, .long 0, .long 0, .int 0])), (q1, .inl (c1, 10, .inl (fun _ => 0))), (q2, .inl (c2, 6, .inl (fun _ => 0)))] rfl ?_
  refine k_aload G dX4_init_20 rfl 0 rfl ?_
  refine k_bip (v := 6) G dX4_init_21 rfl ?_
  refine k_bip (v := 8) G dX4_init_23 rfl ?_
  refine k_multi G (in_g (List.mem_of_getElem? (i := 185) (by decide +kernel)) rfl) dX4_init_25 (Nat.le_of_ble_eq_true rfl) (Nat.le_of_ble_eq_true rfl) (fun q3 r c3 c4 f hf => ?_)
  show YW Γ 29 [(0, .ref h0), (1, .ref g)] [.ref q3, .ref h0] [(h0, .inr (4, [.null, .ref q1, .ref q2, .null, .null, .null, .null, .long 0, .int 0, .long 0, .long 0, .int 0])), (q1, .inl (c1, 10, .inl (fun _ => 0))), (q2, .inl (c2, 6, .inl (fun _ => 0))), (q3, .inl (c3, 6, .inr (.inr (.inr (.inr f))))), (r 0, .inl (c4, 8, .inr (.inl (fun _ => 0)))), (r 1, .inl (c4, 8, .inr (.inl (fun _ => 0)))), (r 2, .inl (c4, 8, .inr (.inl (fun _ => 0)))), (r 3, .inl (c4, 8, .inr (.inl (fun _ => 0)))), (r 4, .inl (c4, 8, .inr (.inl (fun _ => 0)))), (r 5, .inl (c4, 8, .inr (.inl (fun _ => 0))))] [(c1, .boolean), (c2, .int), (c3, .array .long), (c4, .long)] 9 70
  refine k_putF G hI 0 rfl rfl 3 (by decide) (in_g (List.mem_of_getElem? (i := 191) (by decide +kernel)) rfl) rfl rfl (ty := .array (.array .long)) (by decide +kernel) rfl rfl (Nat.le_of_ble_eq_true rfl) dX4_init_29 [(h0, .inr (4, [.null, .ref q1, .ref q2, .ref q3, .null, .null, .null, .long 0, .int 0, .long 0, .long 0, .int 0])), (q1, .inl (c1, 10, .inl (fun _ => 0))), (q2, .inl (c2, 6, .inl (fun _ => 0))), (q3, .inl (c3, 6, .inr (.inr (.inr (.inr f))))), (r 0, .inl (c4, 8, .inr (.inl (fun _ => 0)))), (r 1, .inl (c4, 8, .inr (.inl (fun _ => 0)))), (r 2, .inl (c4, 8, .inr (.inl (fun _ => 0)))), (r 3, .inl (c4, 8, .inr (.inl (fun _ => 0)))), (r 4, .inl (c4, 8, .inr (.inl (fun _ => 0)))), (r 5, .inl (c4, 8, .inr (.inl (fun _ => 0))))] rfl ?_
  refine k_aload G dX4_init_32 rfl 0 rfl ?_
  refine k_bip (v := 6) G dX4_init_33 rfl ?_
  refine k_newa G .long rfl ac_long 6 (6, .inr (.inl (fun _ => 0))) (fun _ => rfl) (by decide) rfl (by decide) (Nat.le_of_ble_eq_true rfl) (Nat.le_of_ble_eq_true rfl) dX4_init_35 (fun q10 c10 => ?_)
  show YW Γ 37 [(0, .ref h0), (1, .ref g)] [.ref q10, .ref h0] [(h0, .inr (4, [.null, .ref q1, .ref q2, .ref q3, .null, .null, .null, .long 0, .int 0, .long 0, .long 0, .int 0])), (q1, .inl (c1, 10, .inl (fun _ => 0))), (q2, .inl (c2, 6, .inl (fun _ => 0))), (q3, .inl (c3, 6, .inr (.inr (.inr (.inr f))))), (r 0, .inl (c4, 8, .inr (.inl (fun _ => 0)))), (r 1, .inl (c4, 8, .inr (.inl (fun _ => 0)))), (r 2, .inl (c4, 8, .inr (.inl (fun _ => 0)))), (r 3, .inl (c4, 8, .inr (.inl (fun _ => 0)))), (r 4, .inl (c4, 8, .inr (.inl (fun _ => 0)))), (r 5, .inl (c4, 8, .inr (.inl (fun _ => 0)))), (q10, .inl (c10, 6, .inr (.inl (fun _ => 0))))] [(c1, .boolean), (c2, .int), (c3, .array .long), (c4, .long), (c10, .long)] 10 76
  refine k_putF G hI 0 rfl rfl 4 (by decide) (in_g (List.mem_of_getElem? (i := 192) (by decide +kernel)) rfl) rfl rfl (ty := .array .long) (by decide +kernel) rfl rfl (Nat.le_of_ble_eq_true rfl) dX4_init_37 [(h0, .inr (4, [.null, .ref q1, .ref q2, .ref q3, .ref q10, .null, .null, .long 0, .int 0, .long 0, .long 0, .int 0])), (q1, .inl (c1, 10, .inl (fun _ => 0))), (q2, .inl (c2, 6, .inl (fun _ => 0))), (q3, .inl (c3, 6, .inr (.inr (.inr (.inr f))))), (r 0, .inl (c4, 8, .inr (.inl (fun _ => 0)))), (r 1, .inl (c4, 8, .inr (.inl (fun _ => 0)))), (r 2, .inl (c4, 8, .inr (.inl (fun _ => 0)))), (r 3, .inl (c4, 8, .inr (.inl (fun _ => 0)))), (r 4, .inl (c4, 8, .inr (.inl (fun _ => 0)))), (r 5, .inl (c4, 8, .inr (.inl (fun _ => 0)))), (q10, .inl (c10, 6, .inr (.inl (fun _ => 0))))] rfl ?_
  refine k_aload G dX4_init_40 rfl 0 rfl ?_
  refine k_bip (v := 10) G dX4_init_41 rfl ?_
  refine k_newa G .long rfl ac_long 10 (10, .inr (.inl (fun _ => 0))) (fun _ => rfl) (by decide) rfl (by decide) (Nat.le_of_ble_eq_true rfl) (Nat.le_of_ble_eq_true rfl) dX4_init_43 (fun q11 c11 => ?_)
  show YW Γ 45 [(0, .ref h0), (1, .ref g)] [.ref q11, .ref h0] [(h0, .inr (4, [.null, .ref q1, .ref q2, .ref q3, .ref q10, .null, .null, .long 0, .int 0, .long 0, .long 0, .int 0])), (q1, .inl (c1, 10, .inl (fun _ => 0))), (q2, .inl (c2, 6, .inl (fun _ => 0))), (q3, .inl (c3, 6, .inr (.inr (.inr (.inr f))))), (r 0, .inl (c4, 8, .inr (.inl (fun _ => 0)))), (r 1, .inl (c4, 8, .inr (.inl (fun _ => 0)))), (r 2, .inl (c4, 8, .inr (.inl (fun _ => 0)))), (r 3, .inl (c4, 8, .inr (.inl (fun _ => 0)))), (r 4, .inl (c4, 8, .inr (.inl (fun _ => 0)))), (r 5, .inl (c4, 8, .inr (.inl (fun _ => 0)))), (q10, .inl (c10, 6, .inr (.inl (fun _ => 0)))), (q11, .inl (c11, 10, .inr (.inl (fun _ => 0))))] [(c1, .boolean), (c2, .int), (c3, .array .long), (c4, .long), (c10, .long), (c11, .long)] 11 86
  refine k_putF G hI 0 rfl rfl 5 (by decide) (in_g (List.mem_of_getElem? (i := 194) (by decide +kernel)) rfl) rfl rfl (ty := .array .long) (by decide +kernel) rfl rfl (Nat.le_of_ble_eq_true rfl) dX4_init_45 [(h0, .inr (4, [.null, .ref q1, .ref q2, .ref q3, .ref q10, .ref q11, .null, .long 0, .int 0, .long 0, .long 0, .int 0])), (q1, .inl (c1, 10, .inl (fun _ => 0))), (q2, .inl (c2, 6, .inl (fun _ => 0))), (q3, .inl (c3, 6, .inr (.inr (.inr (.inr f))))), (r 0, .inl (c4, 8, .inr (.inl (fun _ => 0)))), (r 1, .inl (c4, 8, .inr (.inl (fun _ => 0)))), (r 2, .inl (c4, 8, .inr (.inl (fun _ => 0)))), (r 3, .inl (c4, 8, .inr (.inl (fun _ => 0)))), (r 4, .inl (c4, 8, .inr (.inl (fun _ => 0)))), (r 5, .inl (c4, 8, .inr (.inl (fun _ => 0)))), (q10, .inl (c10, 6, .inr (.inl (fun _ => 0)))), (q11, .inl (c11, 10, .inr (.inl (fun _ => 0))))] rfl ?_
  refine k_aload G dX4_init_48 rfl 0 rfl ?_
  refine k_bip (v := 10) G dX4_init_49 rfl ?_
  refine k_newa G .long rfl ac_long 10 (10, .inr (.inl (fun _ => 0))) (fun _ => rfl) (by decide) rfl (by decide) (Nat.le_of_ble_eq_true rfl) (Nat.le_of_ble_eq_true rfl) dX4_init_51 (fun q12 c12 => ?_)
  show YW Γ 53 [(0, .ref h0), (1, .ref g)] [.ref q12, .ref h0] [(h0, .inr (4, [.null, .ref q1, .ref q2, .ref q3, .ref q10, .ref q11, .null, .long 0, .int 0, .long 0, .long 0, .int 0])), (q1, .inl (c1, 10, .inl (fun _ => 0))), (q2, .inl (c2, 6, .inl (fun _ => 0))), (q3, .inl (c3, 6, .inr (.inr (.inr (.inr f))))), (r 0, .inl (c4, 8, .inr (.inl (fun _ => 0)))), (r 1, .inl (c4, 8, .inr (.inl (fun _ => 0)))), (r 2, .inl (c4, 8, .inr (.inl (fun _ => 0)))), (r 3, .inl (c4, 8, .inr (.inl (fun _ => 0)))), (r 4, .inl (c4, 8, .inr (.inl (fun _ => 0)))), (r 5, .inl (c4, 8, .inr (.inl (fun _ => 0)))), (q10, .inl (c10, 6, .inr (.inl (fun _ => 0)))), (q11, .inl (c11, 10, .inr (.inl (fun _ => 0)))), (q12, .inl (c12, 10, .inr (.inl (fun _ => 0))))] [(c1, .boolean), (c2, .int), (c3, .array .long), (c4, .long), (c10, .long), (c11, .long), (c12, .long)] 12 96
  refine k_putF G hI 0 rfl rfl 6 (by decide) (in_g (List.mem_of_getElem? (i := 196) (by decide +kernel)) rfl) rfl rfl (ty := .array .long) (by decide +kernel) rfl rfl (Nat.le_of_ble_eq_true rfl) dX4_init_53 [(h0, .inr (4, [.null, .ref q1, .ref q2, .ref q3, .ref q10, .ref q11, .ref q12, .long 0, .int 0, .long 0, .long 0, .int 0])), (q1, .inl (c1, 10, .inl (fun _ => 0))), (q2, .inl (c2, 6, .inl (fun _ => 0))), (q3, .inl (c3, 6, .inr (.inr (.inr (.inr f))))), (r 0, .inl (c4, 8, .inr (.inl (fun _ => 0)))), (r 1, .inl (c4, 8, .inr (.inl (fun _ => 0)))), (r 2, .inl (c4, 8, .inr (.inl (fun _ => 0)))), (r 3, .inl (c4, 8, .inr (.inl (fun _ => 0)))), (r 4, .inl (c4, 8, .inr (.inl (fun _ => 0)))), (r 5, .inl (c4, 8, .inr (.inl (fun _ => 0)))), (q10, .inl (c10, 6, .inr (.inl (fun _ => 0)))), (q11, .inl (c11, 10, .inr (.inl (fun _ => 0)))), (q12, .inl (c12, 10, .inr (.inl (fun _ => 0))))] rfl ?_
  refine k_aload G dX4_init_56 rfl 0 rfl ?_
  refine k_lcst (v := 1) G dX4_init_57 rfl ?_
  refine k_put G 0 rfl rfl 7 (by decide) (in_g (List.mem_of_getElem? (i := 198) (by decide +kernel)) rfl) rfl (ty := .long) (by decide +kernel) rfl rfl (Nat.le_of_ble_eq_true rfl) dX4_init_58 [(h0, .inr (4, [.null, .ref q1, .ref q2, .ref q3, .ref q10, .ref q11, .ref q12, .long 1, .int 0, .long 0, .long 0, .int 0])), (q1, .inl (c1, 10, .inl (fun _ => 0))), (q2, .inl (c2, 6, .inl (fun _ => 0))), (q3, .inl (c3, 6, .inr (.inr (.inr (.inr f))))), (r 0, .inl (c4, 8, .inr (.inl (fun _ => 0)))), (r 1, .inl (c4, 8, .inr (.inl (fun _ => 0)))), (r 2, .inl (c4, 8, .inr (.inl (fun _ => 0)))), (r 3, .inl (c4, 8, .inr (.inl (fun _ => 0)))), (r 4, .inl (c4, 8, .inr (.inl (fun _ => 0)))), (r 5, .inl (c4, 8, .inr (.inl (fun _ => 0)))), (q10, .inl (c10, 6, .inr (.inl (fun _ => 0)))), (q11, .inl (c11, 10, .inr (.inl (fun _ => 0)))), (q12, .inl (c12, 10, .inr (.inl (fun _ => 0))))] rfl ?_
  refine k_aload G dX4_init_61 rfl 0 rfl ?_
  refine k_icst (v := (-1)) G dX4_init_62 rfl ?_
  refine k_put G 0 rfl rfl 8 (by decide) (in_g (List.mem_of_getElem? (i := 200) (by decide +kernel)) rfl) rfl (ty := .int) (by decide +kernel) rfl rfl (Nat.le_of_ble_eq_true rfl) dX4_init_63 [(h0, .inr (4, [.null, .ref q1, .ref q2, .ref q3, .ref q10, .ref q11, .ref q12, .long 1, .int (-1), .long 0, .long 0, .int 0])), (q1, .inl (c1, 10, .inl (fun _ => 0))), (q2, .inl (c2, 6, .inl (fun _ => 0))), (q3, .inl (c3, 6, .inr (.inr (.inr (.inr f))))), (r 0, .inl (c4, 8, .inr (.inl (fun _ => 0)))), (r 1, .inl (c4, 8, .inr (.inl (fun _ => 0)))), (r 2, .inl (c4, 8, .inr (.inl (fun _ => 0)))), (r 3, .inl (c4, 8, .inr (.inl (fun _ => 0)))), (r 4, .inl (c4, 8, .inr (.inl (fun _ => 0)))), (r 5, .inl (c4, 8, .inr (.inl (fun _ => 0)))), (q10, .inl (c10, 6, .inr (.inl (fun _ => 0)))), (q11, .inl (c11, 10, .inr (.inl (fun _ => 0)))), (q12, .inl (c12, 10, .inr (.inl (fun _ => 0))))] rfl ?_
  refine k_aload G dX4_init_66 rfl 0 rfl ?_
  refine k_lcst (v := 1) G dX4_init_67 rfl ?_
  refine k_put G 0 rfl rfl 10 (by decide) (in_g (List.mem_of_getElem? (i := 204) (by decide +kernel)) rfl) rfl (ty := .long) (by decide +kernel) rfl rfl (Nat.le_of_ble_eq_true rfl) dX4_init_68 [(h0, .inr (4, [.null, .ref q1, .ref q2, .ref q3, .ref q10, .ref q11, .ref q12, .long 1, .int (-1), .long 0, .long 1, .int 0])), (q1, .inl (c1, 10, .inl (fun _ => 0))), (q2, .inl (c2, 6, .inl (fun _ => 0))), (q3, .inl (c3, 6, .inr (.inr (.inr (.inr f))))), (r 0, .inl (c4, 8, .inr (.inl (fun _ => 0)))), (r 1, .inl (c4, 8, .inr (.inl (fun _ => 0)))), (r 2, .inl (c4, 8, .inr (.inl (fun _ => 0)))), (r 3, .inl (c4, 8, .inr (.inl (fun _ => 0)))), (r 4, .inl (c4, 8, .inr (.inl (fun _ => 0)))), (r 5, .inl (c4, 8, .inr (.inl (fun _ => 0)))), (q10, .inl (c10, 6, .inr (.inl (fun _ => 0)))), (q11, .inl (c11, 10, .inr (.inl (fun _ => 0)))), (q12, .inl (c12, 10, .inr (.inl (fun _ => 0))))] rfl ?_
  refine k_aload G dX4_init_71 rfl 0 rfl ?_
  refine k_aload G dX4_init_72 rfl 1 rfl ?_
  refine k_putF G hI 0 rfl rfl 0 (by decide) (in_g (List.mem_of_getElem? (i := 187) (by decide +kernel)) rfl) rfl rfl (ty := .object "OutageScreen$Grid") (by decide +kernel) rfl rfl (Nat.le_of_ble_eq_true rfl) dX4_init_73 [(h0, .inr (4, [.ref g, .ref q1, .ref q2, .ref q3, .ref q10, .ref q11, .ref q12, .long 1, .int (-1), .long 0, .long 1, .int 0])), (q1, .inl (c1, 10, .inl (fun _ => 0))), (q2, .inl (c2, 6, .inl (fun _ => 0))), (q3, .inl (c3, 6, .inr (.inr (.inr (.inr f))))), (r 0, .inl (c4, 8, .inr (.inl (fun _ => 0)))), (r 1, .inl (c4, 8, .inr (.inl (fun _ => 0)))), (r 2, .inl (c4, 8, .inr (.inl (fun _ => 0)))), (r 3, .inl (c4, 8, .inr (.inl (fun _ => 0)))), (r 4, .inl (c4, 8, .inr (.inl (fun _ => 0)))), (r 5, .inl (c4, 8, .inr (.inl (fun _ => 0)))), (q10, .inl (c10, 6, .inr (.inl (fun _ => 0)))), (q11, .inl (c11, 10, .inr (.inl (fun _ => 0)))), (q12, .inl (c12, 10, .inr (.inl (fun _ => 0))))] rfl ?_
  exact k_vret G hR ⟨f, fun k => [h0, q1, q2, q3, r 0, r 1, r 2, r 3, r 4, r 5, q10, q11, q12].getD k 0, fun k => [0, c1, c2, c3, c4, 0, 0, 0, 0, 0, c10, c11, c12].getD k 0, rfl, rfl, rfl, fun j hj => by rw [hf j hj]; rcases (show j = 0 ∨ j = 1 ∨ j = 2 ∨ j = 3 ∨ j = 4 ∨ j = 5 by omega) with rfl | rfl | rfl | rfl | rfl | rfl <;> rfl⟩ dX4_init_76
def XxP (h0 : Nat) : MkP := fun w tys => ∃ (qg : Nat → Nat) (cg : Nat → ClassId) (wp : va_W) (tp : Tys) (qs : Nat → Nat) (cs : Nat → ClassId) (f : Nat → Option Nat) (qt : Nat → Nat) (ct : Nat → ClassId) (qr : Nat → Nat) (cr : Nat → ClassId) (pa : Nat), PaP pa wp tp ∧ (∀ j, j < 6 → f j = some (qt (4 + j))) ∧
  w = (((((h0, .inr (5, [.ref (qg 0), .ref pa, .ref (qs 0), .ref (qt 0), .ref (qr 0), .int 0, .int 0, .int 0])) :: GrW qg cg) ++ wp) ++ ScW qs cs) ++ StW (qg 0) f qt ct) ++ RaW qr cr ∧ tys = (((GrT cg ++ tp) ++ ScT cs) ++ StT ct) ++ RaT cr
set_option maxRecDepth 100000 in
set_option maxHeartbeats 4000000 in
theorem c_X5_init : Mk (yX5_init, cX5_init, 1, none, 3, 61) 5 [.null, .null, .null, .null, .null, .int 0, .int 0, .int 0] [] 86 1009 XxP := by
  refine mk_of (by decide) rfl (fun _ => Nat.le_of_ble_eq_true rfl) (fun Γ h0 G hI hR => ?_)
  have G : OKc Γ RX5 cX5_init 1 3 61 86 1009 := G
  refine k_aload G dX5_init_0 rfl 0 rfl ?_
  refine k_oi G oi_X5 oi_i oi_c dX5_init_1 (by decide) (Nat.le_of_ble_eq_true rfl) ?_
  refine k_aload G dX5_init_4 rfl 0 rfl ?_
  refine k_new G 0 rfl (in_g (List.mem_of_getElem? (i := 85) (by decide +kernel)) rfl) is_X0 in_X0 tyX0 tyX0_ok [.null, .null, .null, .null, .null, .null, .int 0, .int 0] (fun j hj => by rcases (show j = 0 ∨ j = 1 ∨ j = 2 ∨ j = 3 ∨ j = 4 ∨ j = 5 ∨ j = 6 ∨ j = 7 by omega) with rfl | rfl | rfl | rfl | rfl | rfl | rfl | rfl <;> rfl) (Nat.le_of_ble_eq_true rfl) (Nat.le_of_ble_eq_true rfl) dX5_init_5 (fun aX0 => ?_)
  refine k_dup G dX5_init_8 rfl ?_
  refine k_call G dX5_init_9 (c_X0_init) lkM_X5_9 yk_X0_init ii_X0 rfl rfl [.ref aX0, .ref h0] rfl (Nat.le_of_ble_eq_true rfl) (by decide) ⟨Nat.le_of_ble_eq_true rfl, Nat.le_of_ble_eq_true rfl⟩ (fun w1 tys1 hp => ?_)
  obtain ⟨qg, cg, eX0, rfl, rfl⟩ := hp
  subst eX0
  show YW Γ 12 [(0, .ref h0)] [.ref (qg 0), .ref h0] ((h0, .inr (5, [.null, .null, .null, .null, .null, .int 0, .int 0, .int 0])) :: GrW qg cg) (GrT cg) 7 64
  refine k_putF (fs := [.null, .null, .null, .null, .null, .int 0, .int 0, .int 0]) G hI 0 rfl rfl 0 (by decide) (in_g (List.mem_of_getElem? (i := 261) (by decide +kernel)) rfl) rfl rfl (ty := .object "OutageScreen$Grid") (by decide +kernel) rfl rfl (Nat.le_of_ble_eq_true rfl) dX5_init_12 ((h0, .inr (5, [.ref (qg 0), .null, .null, .null, .null, .int 0, .int 0, .int 0])) :: GrW qg cg) rfl ?_
  refine k_aload G dX5_init_15 rfl 0 rfl ?_
  refine k_new G 1 rfl (in_g (List.mem_of_getElem? (i := 134) (by decide +kernel)) rfl) is_X1 in_X1 tyX1 tyX1_ok [.null, .int 0, .int 0] (fun j hj => by rcases (show j = 0 ∨ j = 1 ∨ j = 2 by omega) with rfl | rfl | rfl <;> rfl) (Nat.le_of_ble_eq_true rfl) (Nat.le_of_ble_eq_true rfl) dX5_init_16 (fun aX1 => ?_)
  refine k_dup G dX5_init_19 rfl ?_
  refine k_call G dX5_init_20 (c_X1_init) lkM_X5_18 yk_X1_init ii_X1 rfl rfl [.ref aX1, .ref h0] rfl (Nat.le_of_ble_eq_true rfl) (by decide) ⟨Nat.le_of_ble_eq_true rfl, Nat.le_of_ble_eq_true rfl⟩ (fun w1 tys1 hp => ?_)
  have hpa := hp
  generalize w1 = wp at hpa
  generalize tys1 = tp at hpa
  clear hp
  show YW Γ 23 [(0, .ref h0)] [.ref (aX1), .ref h0] (((h0, .inr (5, [.ref (qg 0), .null, .null, .null, .null, .int 0, .int 0, .int 0])) :: GrW qg cg) ++ wp) ((GrT cg) ++ tp) 65 587
  refine k_putF (fs := [.ref (qg 0), .null, .null, .null, .null, .int 0, .int 0, .int 0]) G hI 0 rfl rfl 1 (by decide) (in_g (List.mem_of_getElem? (i := 262) (by decide +kernel)) rfl) rfl rfl (ty := .object "OutageScreen$Past") (by decide +kernel) rfl rfl (Nat.le_of_ble_eq_true rfl) dX5_init_23 (((h0, .inr (5, [.ref (qg 0), .ref aX1, .null, .null, .null, .int 0, .int 0, .int 0])) :: GrW qg cg) ++ wp) rfl ?_
  refine k_aload G dX5_init_26 rfl 0 rfl ?_
  refine k_new G 3 rfl (in_g (List.mem_of_getElem? (i := 154) (by decide +kernel)) rfl) is_X3 in_X3 tyX3 tyX3_ok [.null, .null, .int 0, .int 0, .int 0] (fun j hj => by rcases (show j = 0 ∨ j = 1 ∨ j = 2 ∨ j = 3 ∨ j = 4 by omega) with rfl | rfl | rfl | rfl | rfl <;> rfl) (Nat.le_of_ble_eq_true rfl) (Nat.le_of_ble_eq_true rfl) dX5_init_27 (fun aX3 => ?_)
  refine k_dup G dX5_init_30 rfl ?_
  refine k_call G dX5_init_31 (c_X3_init) lkM_X5_25 yk_X3_init ii_X3 rfl rfl [.ref aX3, .ref h0] rfl (Nat.le_of_ble_eq_true rfl) (by decide) ⟨Nat.le_of_ble_eq_true rfl, Nat.le_of_ble_eq_true rfl⟩ (fun w1 tys1 hp => ?_)
  obtain ⟨qs, cs, eX3, rfl, rfl⟩ := hp
  subst eX3
  show YW Γ 34 [(0, .ref h0)] [.ref (qs 0), .ref h0] ((((h0, .inr (5, [.ref (qg 0), .ref aX1, .null, .null, .null, .int 0, .int 0, .int 0])) :: GrW qg cg) ++ wp) ++ ScW qs cs) (((GrT cg) ++ tp) ++ ScT cs) 68 716
  refine k_putF (fs := [.ref (qg 0), .ref aX1, .null, .null, .null, .int 0, .int 0, .int 0]) G hI 0 rfl rfl 2 (by decide) (in_g (List.mem_of_getElem? (i := 263) (by decide +kernel)) rfl) rfl rfl (ty := .object "OutageScreen$Script") (by decide +kernel) rfl rfl (Nat.le_of_ble_eq_true rfl) dX5_init_34 ((((h0, .inr (5, [.ref (qg 0), .ref aX1, .ref (qs 0), .null, .null, .int 0, .int 0, .int 0])) :: GrW qg cg) ++ wp) ++ ScW qs cs) rfl ?_
  refine k_aload G dX5_init_37 rfl 0 rfl ?_
  refine k_new G 4 rfl (in_g (List.mem_of_getElem? (i := 179) (by decide +kernel)) rfl) is_X4 in_X4 tyX4 tyX4_ok [.null, .null, .null, .null, .null, .null, .null, .long 0, .int 0, .long 0, .long 0, .int 0] (fun j hj => by rcases (show j = 0 ∨ j = 1 ∨ j = 2 ∨ j = 3 ∨ j = 4 ∨ j = 5 ∨ j = 6 ∨ j = 7 ∨ j = 8 ∨ j = 9 ∨ j = 10 ∨ j = 11 by omega) with rfl | rfl | rfl | rfl | rfl | rfl | rfl | rfl | rfl | rfl | rfl | rfl <;> rfl) (Nat.le_of_ble_eq_true rfl) (Nat.le_of_ble_eq_true rfl) dX5_init_38 (fun aX4 => ?_)
  refine k_dup G dX5_init_41 rfl ?_
  refine k_aload G dX5_init_42 rfl 0 rfl ?_
  refine k_get (fs := [.ref (qg 0), .ref aX1, .ref (qs 0), .null, .null, .int 0, .int 0, .int 0]) G 0 rfl rfl 0 (by decide) (in_g (List.mem_of_getElem? (i := 261) (by decide +kernel)) rfl) rfl dX5_init_43 ?_
  refine k_call G dX5_init_46 (c_X4_init (qg 0)) lkM_X5_32 yk_X4_init ii_X4 rfl rfl [.ref aX4, .ref h0] rfl (Nat.le_of_ble_eq_true rfl) (by decide) ⟨Nat.le_of_ble_eq_true rfl, Nat.le_of_ble_eq_true rfl⟩ (fun w1 tys1 hp => ?_)
  obtain ⟨f, qt, ct, eX4, rfl, rfl, hf⟩ := hp
  subst eX4
  show YW Γ 49 [(0, .ref h0)] [.ref (qt 0), .ref h0] (((((h0, .inr (5, [.ref (qg 0), .ref aX1, .ref (qs 0), .null, .null, .int 0, .int 0, .int 0])) :: GrW qg cg) ++ wp) ++ ScW qs cs) ++ StW (qg 0) f qt ct) ((((GrT cg) ++ tp) ++ ScT cs) ++ StT ct) 81 824
  refine k_putF (fs := [.ref (qg 0), .ref aX1, .ref (qs 0), .null, .null, .int 0, .int 0, .int 0]) G hI 0 rfl rfl 3 (by decide) (in_g (List.mem_of_getElem? (i := 264) (by decide +kernel)) rfl) rfl rfl (ty := .object "OutageScreen$Study") (by decide +kernel) rfl rfl (Nat.le_of_ble_eq_true rfl) dX5_init_49 (((((h0, .inr (5, [.ref (qg 0), .ref aX1, .ref (qs 0), .ref (qt 0), .null, .int 0, .int 0, .int 0])) :: GrW qg cg) ++ wp) ++ ScW qs cs) ++ StW (qg 0) f qt ct) rfl ?_
  refine k_aload G dX5_init_52 rfl 0 rfl ?_
  refine k_new G 2 rfl (in_g (List.mem_of_getElem? (i := 234) (by decide +kernel)) rfl) is_X2 in_X2 tyX2 tyX2_ok [.null, .null, .null, .null, .int 0] (fun j hj => by rcases (show j = 0 ∨ j = 1 ∨ j = 2 ∨ j = 3 ∨ j = 4 by omega) with rfl | rfl | rfl | rfl | rfl <;> rfl) (Nat.le_of_ble_eq_true rfl) (Nat.le_of_ble_eq_true rfl) dX5_init_53 (fun aX2 => ?_)
  refine k_dup G dX5_init_56 rfl ?_
  refine k_call G dX5_init_57 (c_X2_init) lkM_X5_41 yk_X2_init ii_X2 rfl rfl [.ref aX2, .ref h0] rfl (Nat.le_of_ble_eq_true rfl) (by decide) ⟨Nat.le_of_ble_eq_true rfl, Nat.le_of_ble_eq_true rfl⟩ (fun w1 tys1 hp => ?_)
  obtain ⟨qr, cr, eX2, rfl, rfl⟩ := hp
  subst eX2
  show YW Γ 60 [(0, .ref h0)] [.ref (qr 0), .ref h0] ((((((h0, .inr (5, [.ref (qg 0), .ref aX1, .ref (qs 0), .ref (qt 0), .null, .int 0, .int 0, .int 0])) :: GrW qg cg) ++ wp) ++ ScW qs cs) ++ StW (qg 0) f qt ct) ++ RaW qr cr) (((((GrT cg) ++ tp) ++ ScT cs) ++ StT ct) ++ RaT cr) 86 1009
  refine k_putF (fs := [.ref (qg 0), .ref aX1, .ref (qs 0), .ref (qt 0), .null, .int 0, .int 0, .int 0]) G hI 0 rfl rfl 4 (by decide) (in_g (List.mem_of_getElem? (i := 265) (by decide +kernel)) rfl) rfl rfl (ty := .object "OutageScreen$Ranking") (by decide +kernel) rfl rfl (Nat.le_of_ble_eq_true rfl) dX5_init_60 ((((((h0, .inr (5, [.ref (qg 0), .ref aX1, .ref (qs 0), .ref (qt 0), .ref (qr 0), .int 0, .int 0, .int 0])) :: GrW qg cg) ++ wp) ++ ScW qs cs) ++ StW (qg 0) f qt ct) ++ RaW qr cr) rfl ?_
  exact k_vret G hR ⟨qg, cg, wp, tp, qs, cs, f, qt, ct, qr, cr, aX1, hpa, hf, rfl, rfl⟩ dX5_init_63
