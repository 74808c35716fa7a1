/-! String.length and String.charAt over the eight words (wip/whole/gen/mk16.py) -/
theorem fj_9 : Cond.fieldLink RJ0 9 "java/lang/String" "value" "[B" ∈ lw_g := (in_g (List.mem_of_getElem? (i := 1152) (by decide +kernel)) rfl)
theorem fj_15 : Cond.fieldLink RJ0 15 "java/lang/String" "coder" "B" ∈ lw_g := (in_g (List.mem_of_getElem? (i := 1153) (by decide +kernel)) rfl)
theorem fj_38 : Cond.fieldLink RJ0 38 "java/lang/String" "COMPACT_STRINGS" "Z" ∈ lw_g := (in_g (List.mem_of_getElem? (i := 664) (by decide +kernel)) rfl)
theorem fj_1053 : Cond.fieldLink RJ0 1053 "jdk/internal/util/Preconditions" "SIOOBE_FORMATTER" "Ljava/util/function/BiFunction;" ∈ lw_g := (in_g (List.mem_of_getElem? (i := 680) (by decide +kernel)) rfl)
theorem lkM_J0_335 : LkM RJ0 335 yJ0_coder_7d493 := Or.inl (in_g (List.mem_of_getElem? (i := 660) (by decide +kernel)) rfl)
theorem lkM_J0_492 : LkM RJ0 492 yJ0_isLatin1_aae02 := Or.inl (in_g (List.mem_of_getElem? (i := 670) (by decide +kernel)) rfl)
theorem lkM_J0_495 : LkM RJ0 495 yJ1_charAt_3b067 := Or.inl (in_g (List.mem_of_getElem? (i := 674) (by decide +kernel)) rfl)
theorem lkM_J0_1059 : LkM RJ0 1059 yJ3_checkIndex_8e157 := Or.inl (in_g (List.mem_of_getElem? (i := 682) (by decide +kernel)) rfl)
theorem lkM_J1_9 : LkM RJ1 9 yJ0_checkIndex_df160 := Or.inl (in_g (List.mem_of_getElem? (i := 677) (by decide +kernel)) rfl)
theorem yk_J0_length_8abf5 : Yok yJ0_length_8abf5 cJ0_length_8abf5 1 (some .int) 0 := ⟨(in_g (List.mem_of_getElem? (i := 659) (by decide +kernel)) rfl), (in_g (List.mem_of_getElem? (i := 73) (by decide +kernel)) rfl), by decide +kernel, by decide +kernel⟩
theorem yv_J0_length_8abf5 : YV yJ0_length_8abf5 := ⟨(in_g (List.mem_of_getElem? (i := 657) (by decide +kernel)) rfl), (in_g (List.mem_of_getElem? (i := 658) (by decide +kernel)) rfl)⟩
theorem yk_J0_charAt_5068e : Yok yJ0_charAt_5068e cJ0_charAt_5068e 2 (some .char) 1 := ⟨(in_g (List.mem_of_getElem? (i := 669) (by decide +kernel)) rfl), (in_g (List.mem_of_getElem? (i := 73) (by decide +kernel)) rfl), by decide +kernel, by decide +kernel⟩
theorem yv_J0_charAt_5068e : YV yJ0_charAt_5068e := ⟨(in_g (List.mem_of_getElem? (i := 667) (by decide +kernel)) rfl), (in_g (List.mem_of_getElem? (i := 668) (by decide +kernel)) rfl)⟩
theorem yk_J0_coder_7d493 : Yok yJ0_coder_7d493 cJ0_coder_7d493 1 (some .byte) 0 := ⟨(in_g (List.mem_of_getElem? (i := 663) (by decide +kernel)) rfl), (in_g (List.mem_of_getElem? (i := 73) (by decide +kernel)) rfl), by decide +kernel, by decide +kernel⟩
theorem yv_J0_coder_7d493 : YV yJ0_coder_7d493 := ⟨(in_g (List.mem_of_getElem? (i := 661) (by decide +kernel)) rfl), (in_g (List.mem_of_getElem? (i := 662) (by decide +kernel)) rfl)⟩
theorem yk_J0_isLatin1_aae02 : Yok yJ0_isLatin1_aae02 cJ0_isLatin1_aae02 1 (some .boolean) 0 := ⟨(in_g (List.mem_of_getElem? (i := 673) (by decide +kernel)) rfl), (in_g (List.mem_of_getElem? (i := 73) (by decide +kernel)) rfl), by decide +kernel, by decide +kernel⟩
theorem yv_J0_isLatin1_aae02 : YV yJ0_isLatin1_aae02 := ⟨(in_g (List.mem_of_getElem? (i := 671) (by decide +kernel)) rfl), (in_g (List.mem_of_getElem? (i := 672) (by decide +kernel)) rfl)⟩
theorem yk_J0_checkIndex_df160 : Yok yJ0_checkIndex_df160 cJ0_checkIndex_df160 2 none 2 := ⟨(in_g (List.mem_of_getElem? (i := 679) (by decide +kernel)) rfl), (in_g (List.mem_of_getElem? (i := 73) (by decide +kernel)) rfl), by decide +kernel, by decide +kernel⟩
theorem st_J0_checkIndex_df160 : Cond.static yJ0_checkIndex_df160 ∈ lw_g := (in_g (List.mem_of_getElem? (i := 678) (by decide +kernel)) rfl)
theorem yk_J1_charAt_3b067 : Yok yJ1_charAt_3b067 cJ1_charAt_3b067 2 (some .char) 2 := ⟨(in_g (List.mem_of_getElem? (i := 676) (by decide +kernel)) rfl), (in_g (List.mem_of_getElem? (i := 74) (by decide +kernel)) rfl), by decide +kernel, by decide +kernel⟩
theorem st_J1_charAt_3b067 : Cond.static yJ1_charAt_3b067 ∈ lw_g := (in_g (List.mem_of_getElem? (i := 675) (by decide +kernel)) rfl)
theorem yk_J3_checkIndex_8e157 : Yok yJ3_checkIndex_8e157 cJ3_checkIndex_8e157 3 (some .int) 3 := ⟨(in_g (List.mem_of_getElem? (i := 684) (by decide +kernel)) rfl), (in_g (List.mem_of_getElem? (i := 75) (by decide +kernel)) rfl), by decide +kernel, by decide +kernel⟩
theorem st_J3_checkIndex_8e157 : Cond.static yJ3_checkIndex_8e157 ∈ lw_g := (in_g (List.mem_of_getElem? (i := 683) (by decide +kernel)) rfl)
section RW
variable {Γ : Cxt} {own : String} {cc cc2 : ByteArray} {nL fr lo pc idx nL2 fr2 lo2 n : Nat} {rt rt2 : Option FieldType} {L : List (Option Value)} {st As : List Value} {σ σ' : St} {r : Option Value} {y : MethodName}
theorem s_sval {w : Nat} (G : OK Γ RJ0 cc nL rt fr lo) (hd : decode cc pc = .ok (.getfield 9, 3)) (hw : w < 8) (k : WW Γ (pc + 3) L (.ref (210 + w) :: st) σ) : WW Γ pc L (.ref (200 + w) :: st) σ := by
  obtain ⟨p, l, e, R, s, m, args, below, meth, c, D, ad, cA, Q, nc, ns⟩ := Γ
  obtain ⟨hx, hb, hr, hml, hown, hts, hN, hK, hKA, hI, hlk, hStr, hR⟩ := G
  intro H locs ls hP hS hL
  exact vk_getf hx hb (hStr.1.1.1 w hw).2.2.1 hS hown (hts _ fj_9) (fun _ h => h) hd (k H locs ls hP hS hL)
theorem s_scod {w : Nat} (G : OK Γ RJ0 cc nL rt fr lo) (hd : decode cc pc = .ok (.getfield 15, 3)) (hw : w < 8) (k : WW Γ (pc + 3) L (.int 0 :: st) σ) : WW Γ pc L (.ref (200 + w) :: st) σ := by
  obtain ⟨p, l, e, R, s, m, args, below, meth, c, D, ad, cA, Q, nc, ns⟩ := Γ
  obtain ⟨hx, hb, hr, hml, hown, hts, hN, hK, hKA, hI, hlk, hStr, hR⟩ := G
  intro H locs ls hP hS hL
  exact vk_getf hx hb (hStr.1.1.1 w hw).2.1 hS hown (hts _ fj_15) (fun _ h => h) hd (k H locs ls hP hS hL)
theorem s_scmp (G : OK Γ RJ0 cc nL rt fr lo) (hd : decode cc pc = .ok (.getstatic 38, 3)) (k : WW Γ (pc + 3) L (.int 1 :: st) σ) : WW Γ pc L st σ := by
  obtain ⟨p, l, e, R, s, m, args, below, meth, c, D, ad, cA, Q, nc, ns⟩ := Γ
  obtain ⟨hx, hb, hr, hml, hown, hts, hN, hK, hKA, hI, hlk, hStr, hR⟩ := G
  intro H locs ls hP hS hL
  exact va_gets hx hb hStr.1.2.1 hS hown (hts _ fj_38) (fun _ h => h) hd (k H locs ls hP hS hL)
theorem s_ssio (G : OK Γ RJ0 cc nL rt fr lo) (hd : decode cc pc = .ok (.getstatic 1053, 3)) (k : ∀ v : Value, v = .null ∨ v = .ref 220 → WW Γ (pc + 3) L (v :: st) σ) : WW Γ pc L st σ := by
  obtain ⟨p, l, e, R, s, m, args, below, meth, c, D, ad, cA, Q, nc, ns⟩ := Γ
  obtain ⟨hx, hb, hr, hml, hown, hts, hN, hK, hKA, hI, hlk, hStr, hR⟩ := G
  intro H locs ls hP hS hL
  rcases hStr.1.2.2 with h | h
  · exact va_gets hx hb h hS hown (hts _ fj_1053) (fun _ h => h) hd (k .null (Or.inl rfl) H locs ls hP hS hL)
  · exact va_gets hx hb h hS hown (hts _ fj_1053) (fun _ h => h) hd (k (.ref 220) (Or.inr rfl) H locs ls hP hS hL)
theorem s_salen {w : Nat} (G : OK Γ own cc nL rt fr lo) (hd : decode cc pc = .ok (.arraylength, 1)) (hw : w < 8) (k : WW Γ (pc + 1) L (.int (nI (lenS.getD w 0)) :: st) σ) : WW Γ pc L (.ref (210 + w) :: st) σ := by
  obtain ⟨p, l, e, R, s, m, args, below, meth, c, D, ad, cA, Q, nc, ns⟩ := Γ
  obtain ⟨hx, hb, hr, hml, hown, hts, hN, hK, hKA, hI, hlk, hStr, hR⟩ := G
  intro H locs ls hP hS hL
  exact va_tlen hx hb (hStr.1.1.1 w hw).2.2.2 hS rfl hd (k H locs ls hP hS hL)
theorem s_sbald {w : Nat} {i : Int32} (G : OK Γ own cc nL rt fr lo) (hd : decode cc pc = .ok (.baload, 1)) (hw : w < 8) (hi : ib i (lenS.getD w 0) = true) (k : WW Γ (pc + 1) L (.int ((bytS.getD w []).getD i.toNatClampNeg 0) :: st) σ) : WW Γ pc L (.int i :: .ref (210 + w) :: st) σ := by
  obtain ⟨p, l, e, R, s, m, args, below, meth, c, D, ad, cA, Q, nc, ns⟩ := Γ
  obtain ⟨hx, hb, hr, hml, hown, hts, hN, hK, hKA, hI, hlk, hStr, hR⟩ := G
  intro H locs ls hP hS hL
  exact va_tb hx hb (hStr.1.1.1 w hw).2.2.2 hS (ib_in hi) rfl hd (k H locs ls hP hS hL)
theorem s_i2c {x v : Int32} (G : OK Γ own cc nL rt fr lo) (hd : decode cc pc = .ok (.i2c, 1)) (hv : (x.toUInt32 % 65536).toInt32 = v) (k : WW Γ (pc + 1) L (.int v :: st) σ) : WW Γ pc L (.int x :: st) σ := by
  obtain ⟨p, l, e, R, s, m, args, below, meth, c, D, ad, cA, Q, nc, ns⟩ := Γ
  obtain ⟨hx, hb, hr, hml, hown, hts, hN, hK, hKA, hI, hlk, hStr, hR⟩ := G
  intro H locs ls hP hS hL
  exact lv_i2c hx hb hd hv (k H locs ls hP hS hL)
theorem s_xret {v : Int32} {ty : FieldType} (G : OK Γ own cc nL (some ty) fr lo) (hR0 : RetOK Γ r σ') (hd : decode cc pc = .ok (.ireturn, 1)) (hn : narrow ty (.int v) = .int v) (hr0 : (some (.int v)) = r) (hs0 : σ = σ') : WW Γ pc L [.int v] σ := by
  obtain ⟨p, l, e, R, s, m, args, below, meth, c, D, ad, cA, Q, nc, ns⟩ := Γ
  obtain ⟨hx, hb, hr, hml, hown, hts, hN, hK, hKA, hI, hlk, hStr, hR⟩ := G
  subst hr0
  subst hs0
  intro H locs ls hP hS hL
  rw [show Q = _ from hR0]
  exact W.zret (v := v) hx hb hr hn (fun t ht hW => ⟨rfl, by rw [ht]; exact hP, hS.F ht⟩) hS.2.2 hd hlk
theorem s_callW {b w : Nat} (G : OK Γ own cc nL rt fr lo) (hd : decode cc pc = .ok (.invokevirtual idx, 3)) (hM : Mt (y, cc2, nL2, rt2, fr2, lo2) (.ref b :: As) σ r σ') (hl : LkM own idx y) (hY : Yok y cc2 nL2 rt2 n) (hV : YV y) (hb0 : w < 8) (hk : b = 200 + w) (hcl : y.cls = "java/lang/String") (As' : List Value) (rest : List Value) (hAs : As' = As) (hn : As.length = n) (hst : st = As.reverse ++ .ref b :: rest) (hcat : (rest.map fun v => v.category).sum ≤ 8) (hro : fr2 + 1 ≤ fr ∧ 8 + (nL2 + 11) + lo2 ≤ lo) (kk : WW Γ (pc + 3) L (r.toList ++ rest) σ') : WW Γ pc L st σ := by
  subst hst
  obtain ⟨p, l, e, R, s, m, args, below, meth, c, D, ad, cA, Q, nc, ns⟩ := Γ
  obtain ⟨hx, hb, hr, hml, hown, hts, hN, hK, hKA, hI, hlk, hStr, hR⟩ := G
  obtain ⟨hY1, hY2, hY3, hY4⟩ := hY
  intro H locs ls hP hS hL
  have hS9 := hL.1
  have hm := hM l D ad cA H.size
  have hG := wU_good hY1
  have hpay := pay_in hts hG
  have hpar : ∀ sig, parseMethodDescriptor y.desc = some sig → n = sig.parameters.length := fun sig h => by rw [h] at hY4; exact (Option.some.inj hY4).symm
  have hcat2 : 2 * (F0 m pc ls ((As.reverse ++ .ref b :: rest).map (cvv ad))).monitorRoom + ((rest.map (cvv ad)).map fun v => v.category).sum ≤ 8 := lv_room (by rw [cats]; exact hcat)
  have hfin : ∀ (H1 : Heap) (locs1 : List Loc), va_P D cl7 (wS ad cA σ') H1 → va_S (Aw ad s.heap.size) s.heap H1 locs1 → W p l e R s m args below meth c H1 locs1 nc ns Q (F0 m (pc + 3) ls ((r.map (cvv ad)).toList ++ rest.map (cvv ad))) := by
    intro H1 locs1 hP1 hS1
    have h9 := kk H1 locs1 ls hP1 hS1 hL
    rw [List.map_append] at h9
    cases r <;> exact h9
  have hstk : (As.reverse ++ .ref b :: rest).map (cvv ad) = (As.map (cvv ad)).reverse ++ .ref (ad b) :: rest.map (cvv ad) := by rw [List.map_append, List.map_reverse]; try rfl
  have hlen : (As.map (cvv ad)).length = n := by rw [List.length_map]; exact hn
  have hro1 : fr2 + 1 ≤ R.frames := Nat.le_trans hro.1 hR.1
  have hro2 : 8 + (nL2 + 11) + lo2 ≤ R.locals := Nat.le_trans hro.2 hR.2.1
  have hcode := hts _ hY1
  have hini := hts _ hY2
  have hrec : ∃ cellB : Cell, H[ad b]? = some cellB ∧ cellB.vm.isStatics = false ∧ s.vm.findClass y.cls = some cellB.cls := by
    subst hk
    rw [hcl]
    exact vk_recv (i := w) (adK := fun i => ad (200 + i)) hStr.1.1 hb0 hS
  rcases hl with h | ⟨host, h⟩
  · exact w_call (va_runV (As := As.map (cvv ad)) (rest := rest.map (cvv ad)) (Ts := lw_g) (C := y.cls) ⟨hx, hb, rfl, hown, hts⟩ hm ⟨⟨rfl, rfl, hro1, hro2, hpay, List.mem_cons_self, hcode, hini, hY3, hpar, hts _ h⟩, hts _ hV.1, hts _ hV.2⟩ ⟨Pm_blind, hrec, w_pre (av := .ref b :: As) hP hS hN hK hKA hI hStr⟩ rfl hlen hS9 hstk hcat2 hd ⟨hR.2.2.1, hR.2.2.2⟩) hS hfin
  · exact w_call (va_runVN (As := As.map (cvv ad)) (rest := rest.map (cvv ad)) (Ts := lw_g) (C := y.cls) ⟨hx, hb, rfl, hown, hts⟩ hm ⟨⟨⟨rfl, rfl, hro1, hro2, hpay, List.mem_cons_self⟩, hcode, hini, hY3, hpar, (hN _ h).use rfl⟩, hts _ hV.1, hts _ hV.2⟩ ⟨Pm_blind, hrec, w_pre (av := .ref b :: As) hP hS hN hK hKA hI hStr⟩ rfl hlen hS9 hstk hcat2 hd ⟨hR.2.2.1, hR.2.2.2⟩) hS hfin
end RW
section JW
variable {σ : St} {w : Nat} {i : Int32} {n : Nat}
theorem j_coder (hw : w < 8) : Mt (yJ0_coder_7d493, cJ0_coder_7d493, 1, some .byte, 0, 0) [.ref (200 + w)] σ (some (.int 0)) σ := by
  refine mt_of (by decide) (Nat.le_of_ble_eq_true rfl) [some (.ref (200 + w))] rfl (fun Γ G R => ?_)
  have G : OK Γ RJ0 cJ0_coder_7d493 1 (some .byte) 0 0 := G
  refine s_scmp G dJ0_coder_7d493_0 ?_
  refine s_if_eq (tgt := 13) G dJ0_coder_7d493_3 (by decide) (fun c => absurd c (by decide)) (fun _ => ?_)
  refine s_aload_n G dJ0_coder_7d493_6 rfl ?_
  refine s_scod G dJ0_coder_7d493_7 hw ?_
  refine s_goto (tgt := 14) G dJ0_coder_7d493_10 (by decide) ?_
  exact s_xret G R dJ0_coder_7d493_14 rfl rfl rfl
theorem j_lat1 (hw : w < 8) : Mt (yJ0_isLatin1_aae02, cJ0_isLatin1_aae02, 1, some .boolean, 0, 0) [.ref (200 + w)] σ (some (.int 1)) σ := by
  refine mt_of (by decide) (Nat.le_of_ble_eq_true rfl) [some (.ref (200 + w))] rfl (fun Γ G R => ?_)
  have G : OK Γ RJ0 cJ0_isLatin1_aae02 1 (some .boolean) 0 0 := G
  refine s_scmp G dJ0_isLatin1_aae02_0 ?_
  refine s_if_eq (tgt := 17) G dJ0_isLatin1_aae02_3 (by decide) (fun c => absurd c (by decide)) (fun _ => ?_)
  refine s_aload_n G dJ0_isLatin1_aae02_6 rfl ?_
  refine s_scod G dJ0_isLatin1_aae02_7 hw ?_
  refine s_if_ne (tgt := 17) G dJ0_isLatin1_aae02_10 (by decide) (fun c => absurd rfl c) (fun _ => ?_)
  refine s_iconst (v := 1) G dJ0_isLatin1_aae02_13 rfl ?_
  refine s_goto (tgt := 18) G dJ0_isLatin1_aae02_14 (by decide) ?_
  exact s_xret G R dJ0_isLatin1_aae02_18 rfl rfl rfl
theorem sc_shr (w : Nat) (hw : w < 8) : nI (lenS.getD w 0) >>> ((0 : Int32) &&& 31) = nI (lenS.getD w 0) := by
  have h : ∀ w, w < 8 → nI (lenS.getD w 0) >>> ((0 : Int32) &&& 31) = nI (lenS.getD w 0) := by decide +kernel
  exact h w hw
theorem j_len (hw : w < 8) : Mt (yJ0_length_8abf5, cJ0_length_8abf5, 1, some .int, 1, 20) [.ref (200 + w)] σ (some (.int (nI (lenS.getD w 0)))) σ := by
  refine mt_of (by decide) (Nat.le_of_ble_eq_true rfl) [some (.ref (200 + w))] rfl (fun Γ G R => ?_)
  have G : OK Γ RJ0 cJ0_length_8abf5 1 (some .int) 1 20 := G
  refine s_aload_n G dJ0_length_8abf5_0 rfl ?_
  refine s_sval G dJ0_length_8abf5_1 hw ?_
  refine s_salen G dJ0_length_8abf5_4 hw ?_
  refine s_aload_n G dJ0_length_8abf5_5 rfl ?_
  refine s_callW G dJ0_length_8abf5_6 (j_coder hw) lkM_J0_335 yk_J0_coder_7d493 yv_J0_coder_7d493 hw rfl rfl [] [.int (nI (lenS.getD w 0))] rfl rfl rfl (Nat.le_of_ble_eq_true rfl) (by decide) ?_
  refine s_ishr G dJ0_length_8abf5_9 ?_
  rw [sc_shr w hw]
  exact s_iret G R dJ0_length_8abf5_10 rfl rfl
theorem ib_lt2 {i : Int32} {n : Nat} (h : ib i n = true) (hn : n < 2147483648) : ¬ i < 0 ∧ i < nI n := by
  have h2 : ¬ (i < 0 ∨ n ≤ i.toNatClampNeg) := ib_in h
  have h0 : ¬ i < 0 := fun c => h2 (Or.inl c)
  have h1 : i.toNatClampNeg < n := Nat.lt_of_not_le (fun c => h2 (Or.inr c))
  refine ⟨h0, ?_⟩
  rw [Int32.lt_iff_toInt_lt]
  have e1 : (nI n).toInt = (n : Int) := Int32.toInt_ofNat_of_lt (by omega)
  have e2 : (0 : Int) ≤ i.toInt := by
    have := Int32.not_lt.mp h0
    simpa using Int32.le_iff_toInt_le.mp this
  have e3 : i.toInt = ((i.toInt.toNat : Nat) : Int) := by omega
  have e4 : i.toInt.toNat < n := h1
  omega
theorem j_pre (hi : ¬ i < 0 ∧ i < nI n) {v : Value} (hv : v = .null ∨ v = .ref 220) : Mt (yJ3_checkIndex_8e157, cJ3_checkIndex_8e157, 3, some .int, 0, 0) [.int i, .int (nI n), v] σ (some (.int i)) σ := by
  rcases hv with rfl | rfl
  all_goals
    refine mt_of (by decide) (Nat.le_of_ble_eq_true rfl) _ rfl (fun Γ G R => ?_)
    have G : OK Γ RJ3 cJ3_checkIndex_8e157 3 (some .int) 0 0 := G
    refine s_iload_n G dJ3_checkIndex_8e157_0 rfl ?_
    refine s_if_lt (tgt := 9) G dJ3_checkIndex_8e157_1 (by decide) (fun c => absurd c hi.1) (fun _ => ?_)
    refine s_iload_n G dJ3_checkIndex_8e157_4 rfl ?_
    refine s_iload_n G dJ3_checkIndex_8e157_5 rfl ?_
    refine s_icmp_lt (tgt := 16) G dJ3_checkIndex_8e157_6 (by decide) (fun _ => ?_) (fun c => absurd hi.2 c)
    refine s_iload_n G dJ3_checkIndex_8e157_16 rfl ?_
    exact s_iret G R dJ3_checkIndex_8e157_17 rfl rfl
theorem j_chk (hi : ¬ i < 0 ∧ i < nI n) : Mt (yJ0_checkIndex_df160, cJ0_checkIndex_df160, 2, none, 1, 22) [.int i, .int (nI n)] σ none σ := by
  refine mt_of (by decide) (Nat.le_of_ble_eq_true rfl) [some (.int i), some (.int (nI n))] rfl (fun Γ G R => ?_)
  have G : OK Γ RJ0 cJ0_checkIndex_df160 2 none 1 22 := G
  refine s_iload_n G dJ0_checkIndex_df160_0 rfl ?_
  refine s_iload_n G dJ0_checkIndex_df160_1 rfl ?_
  refine s_ssio G dJ0_checkIndex_df160_2 (fun v hv => ?_)
  refine s_callS G dJ0_checkIndex_df160_5 (j_pre hi hv) lkM_J0_1059 yk_J3_checkIndex_8e157 st_J3_checkIndex_8e157 [.int i, .int (nI n), v] [] rfl rfl rfl (Nat.le_of_ble_eq_true rfl) (by decide) ?_
  refine s_pop G dJ0_checkIndex_df160_8 rfl ?_
  exact s_vret G R dJ0_checkIndex_df160_9 rfl rfl
theorem byt_ok (hw : w < 8) {k : Nat} (hk : k < lenS.getD w 0) : (bytS.getD w []).getD k 0 &&& 255 = (bytS.getD w []).getD k 0 ∧ (((bytS.getD w []).getD k 0).toUInt32 % 65536).toInt32 = (bytS.getD w []).getD k 0 := by
  have h : ∀ w, w < 8 → ∀ k, k < lenS.getD w 0 → ((bytS.getD w []).getD k 0 &&& 255 = (bytS.getD w []).getD k 0 ∧ (((bytS.getD w []).getD k 0).toUInt32 % 65536).toInt32 = (bytS.getD w []).getD k 0) := by decide +kernel
  exact h w hw k hk
theorem len_lt (hw : w < 8) : lenS.getD w 0 < 2147483648 := by
  have h : ∀ w, w < 8 → lenS.getD w 0 < 2147483648 := by decide +kernel
  exact h w hw
theorem ib_k {i : Int32} {n : Nat} (h : ib i n = true) : i.toNatClampNeg < n := Nat.lt_of_not_le (fun c => (show ¬ (i < 0 ∨ n ≤ i.toNatClampNeg) from ib_in h) (Or.inr c))
theorem j_lat (hw : w < 8) (hi : ib i (lenS.getD w 0) = true) : Mt (yJ1_charAt_3b067, cJ1_charAt_3b067, 2, some .char, 2, 43) [.ref (210 + w), .int i] σ (some (.int ((bytS.getD w []).getD i.toNatClampNeg 0))) σ := by
  obtain ⟨b1, b2⟩ := byt_ok hw (ib_k hi)
  refine mt_of (by decide) (Nat.le_of_ble_eq_true rfl) [some (.ref (210 + w)), some (.int i)] rfl (fun Γ G R => ?_)
  have G : OK Γ RJ1 cJ1_charAt_3b067 2 (some .char) 2 43 := G
  refine s_iload_n G dJ1_charAt_3b067_0 rfl ?_
  refine s_aload_n G dJ1_charAt_3b067_1 rfl ?_
  refine s_salen G dJ1_charAt_3b067_2 hw ?_
  refine s_callS G dJ1_charAt_3b067_3 (j_chk (ib_lt2 hi (len_lt hw))) lkM_J1_9 yk_J0_checkIndex_df160 st_J0_checkIndex_df160 [.int i, .int (nI (lenS.getD w 0))] [] rfl rfl rfl (Nat.le_of_ble_eq_true rfl) (by decide) ?_
  refine s_aload_n G dJ1_charAt_3b067_6 rfl ?_
  refine s_iload_n G dJ1_charAt_3b067_7 rfl ?_
  refine s_sbald G dJ1_charAt_3b067_8 hw hi ?_
  refine s_sipush (v := 255) G dJ1_charAt_3b067_9 rfl ?_
  refine s_iand G dJ1_charAt_3b067_12 ?_
  rw [b1]
  refine s_i2c G dJ1_charAt_3b067_13 b2 ?_
  exact s_xret G R dJ1_charAt_3b067_14 (congrArg Value.int b2) rfl rfl
theorem j_char (hw : w < 8) (hi : ib i (lenS.getD w 0) = true) : Mt (yJ0_charAt_5068e, cJ0_charAt_5068e, 2, some .char, 3, 64) [.ref (200 + w), .int i] σ (some (.int ((bytS.getD w []).getD i.toNatClampNeg 0))) σ := by
  obtain ⟨b1, b2⟩ := byt_ok hw (ib_k hi)
  refine mt_of (by decide) (Nat.le_of_ble_eq_true rfl) [some (.ref (200 + w)), some (.int i)] rfl (fun Γ G R => ?_)
  have G : OK Γ RJ0 cJ0_charAt_5068e 2 (some .char) 3 64 := G
  refine s_aload_n G dJ0_charAt_5068e_0 rfl ?_
  refine s_callW G dJ0_charAt_5068e_1 (j_lat1 hw) lkM_J0_492 yk_J0_isLatin1_aae02 yv_J0_isLatin1_aae02 hw rfl rfl [] [] rfl rfl rfl (Nat.le_of_ble_eq_true rfl) (by decide) ?_
  refine s_if_eq (tgt := 16) G dJ0_charAt_5068e_4 (by decide) (fun c => absurd c (by decide)) (fun _ => ?_)
  refine s_aload_n G dJ0_charAt_5068e_7 rfl ?_
  refine s_sval G dJ0_charAt_5068e_8 hw ?_
  refine s_iload_n G dJ0_charAt_5068e_11 rfl ?_
  refine s_callS G dJ0_charAt_5068e_12 (j_lat hw hi) lkM_J0_495 yk_J1_charAt_3b067 st_J1_charAt_3b067 [.ref (210 + w), .int i] [] rfl rfl rfl (Nat.le_of_ble_eq_true rfl) (by decide) ?_
  exact s_xret G R dJ0_charAt_5068e_15 (congrArg Value.int b2) rfl rfl
end JW
section RW
variable {Γ : Cxt} {own : String} {cc : ByteArray} {nL fr lo pc idx : Nat} {rt : Option FieldType} {L : List (Option Value)} {st : List Value} {σ : St}
theorem s_slen {w : Nat} (G : OK Γ RX3 cc nL rt fr lo) (hd : decode cc pc = .ok (.invokevirtual 67, 3)) (hw : w < 8) (hcat : (st.map fun v => v.category).sum ≤ 8) (hro : 3 ≤ fr ∧ 100 ≤ lo) (k : WW Γ (pc + 3) L (.int (nI (lenS.getD w 0)) :: st) σ) : WW Γ pc L (.ref (200 + w) :: st) σ :=
  s_callW G hd (j_len hw) lkM_X3_67 yk_J0_length_8abf5 yv_J0_length_8abf5 hw rfl rfl [] st rfl rfl rfl hcat ⟨by omega, by omega⟩ k
theorem s_schar {w : Nat} {i : Int32} (G : OK Γ RX3 cc nL rt fr lo) (hd : decode cc pc = .ok (.invokevirtual 72, 3)) (hw : w < 8) (hi : ib i (lenS.getD w 0) = true) (hcat : (st.map fun v => v.category).sum ≤ 8) (hro : 5 ≤ fr ∧ 181 ≤ lo) (k : WW Γ (pc + 3) L (.int ((bytS.getD w []).getD i.toNatClampNeg 0) :: st) σ) : WW Γ pc L (.int i :: .ref (200 + w) :: st) σ :=
  s_callW G hd (j_char hw hi) lkM_X3_72 yk_J0_charAt_5068e yv_J0_charAt_5068e hw rfl rfl [.int i] st rfl rfl rfl hcat ⟨by omega, by omega⟩ k
end RW
