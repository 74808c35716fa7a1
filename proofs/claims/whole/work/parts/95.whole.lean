/-! THE CLAIM OUT OF ONE WALK OF THE LAW'S BODY. Your part is whole_start (and what it stands on); all else here is the same for every law, but numbers. -/
def R_law : String := "OutageScreenLaw"
def lw_P (b : Addr) (xs : List Int32) (args : Array Value) (s : State) : Prop := args = #[.ref b] ∧ s.IntsAt b xs ∧ xs.length ≤ 2560 ∧ (Jvm.Cond.and given_1 narrow_1).before args s = true
def lw_Q (_ : Array Value) (s : State) (o : Outcome) (t : State) : Prop := o = .returned (some (.int 1)) ∧ Framed s o t [] 600000 7302250
def lw_Z (below : List Frame) (a : Array Value) (s : State) : State → Prop := fun t => ∃ o, t.status = .running ∧ Ended t below o ∧ lw_Q a s o t
/-- the law's own end, with 1 on the stack, nothing written that was there before, its room as the claim has it -/
theorem lw_ret {p : Program} {l : Launch} {e : Env} {s : State} {m : MethodId} {below : List Frame} {meth : Method} {c : Code} {b : Nat} (hx : p.tables.exec = Jvm.exec) (hb : c.code = code) (hr : meth.sig.returnType = ret) (hlocks : meth.locks = false) {pc : Nat} {H : Heap} {ls : Array Slot} (hdg : decode code pc = .ok (.ireturn, 1)) : W p l e room_1 s m #[Value.ref b] below meth c H [] 600000 7302250 (lw_Z below #[Value.ref b] s) (F0 m pc ls [.int 1]) := by
  intro T hT X
  obtain ⟨fs, hret, hrun, hended, hW, hframe⟩ := X.leave (v := some (.int 1)) (hlocks := hlocks) (fun h => by rw [hr] at h; cases h)
  have hmeth' : T.vm.method? m = some meth := X.method'
  refine ⟨T.setFrames fs, ?_, .returned (some (.int 1)), hrun, hended, rfl, ⟨_, rfl⟩, hW, hframe⟩
  jvm_step X.here [X.here.top, hx, hb, hdg, hmeth', hr, ret, narrow_b1]
  (try refine ⟨rfl, ?_⟩); (try refine ⟨rfl, ?_⟩)
  first | (intro acts; rw [hret _ acts rfl rfl rfl]) | rw [hret _ _ rfl rfl rfl]
  exact Steps.refl _
/-- what holds at the law's entry: the machine, the code, the tables' words (any of lw_tbl by 'hts w (by decide +kernel)'), the script of L ints xs at the cell b, what the Statement gives of the start (any of its parts by flat_of_before) -/
def lw_At (p : Program) (s : State) (m : MethodId) (meth : Method) (c : Code) (b L : Nat) (xs : Nat → Int32) : Prop :=
  p.tables.exec = Jvm.exec ∧ c.code = code ∧ meth.sig.returnType = ret ∧ c.maxLocals = 4 ∧ s.vm.findClass R_law = some m.cls ∧ (∀ w ∈ lw_tbl, w.before #[Value.ref b] s = true) ∧ va_X b L xs s s.heap ∧ b < s.heap.size ∧ meth.locks = false ∧ (Jvm.Cond.and given_1 narrow_1).before #[Value.ref b] s = true
theorem vkS_cg {N : Nat} {len : List Nat} {byt : List (List Int32)} {adK adK' adV adV' : Nat → Nat} {A : Nat → Prop} {U : State} {H : Heap} (h1 : ∀ i, i < N → adK' i = adK i) (h2 : ∀ i, i < N → adV' i = adV i) (h : vk_S N len byt adK adV A U H) : vk_S N len byt adK' adV' A U H :=
  ⟨fun i hi => by rw [h1 i hi, h2 i hi]; exact h.1 i hi, fun i j hi hj e => h.2 i j hi hj (by rw [← h1 i hi, ← h1 j hj]; exact e)⟩
theorem lw_end {p : Program} {e : Env} {s : State} {m : MethodId} {below : List Frame} {meth : Method} {c : Code} (l : Launch) {b L : Nat} {xs : Nat → Int32} (hL : L ≤ 2560) (C0 : lw_At p s m meth c b L xs) {D : va_G} (hK : va_K D cl7 [] s) {adK adV : Nat → Nat} {t : Nat} (hS1 : vk_S 8 lenS bytS adK adV (fun q => s.heap.size ≤ q) s s.heap) (hS2 : ∀ i, i < 8 → vk_R RX3 (txtS.getD i (0, "")).1 (txtS.getD i (0, "")).2 (adK i) s) (hS3 : va_Z "java/lang/String" "COMPACT_STRINGS" "Z" (.int 1) (fun q => s.heap.size ≤ q) s s.heap) (hS4 : va_Z "jdk/internal/util/Preconditions" "SIOOBE_FORMATTER" "Ljava/util/function/BiFunction;" .null (fun q => s.heap.size ≤ q) s s.heap ∨ va_Z "jdk/internal/util/Preconditions" "SIOOBE_FORMATTER" "Ljava/util/function/BiFunction;" (.ref t) (fun q => s.heap.size ≤ q) s s.heap)
    {x : Nat} {qg : Nat → Nat} {cg : Nat → ClassId} {pa a : Nat} {ca : ClassId} {fp : Nat → Option Nat} {Gq : Nat → Nat → Nat} {C : Nat → Nat → ClassId} {qs : Nat → Nat} {cs : Nat → ClassId} {f : Nat → Option Nat} {qt : Nat → Nat} {ct : Nat → ClassId} {qr : Nat → Nat} {cr : Nat → ClassId} {qm : Nat → Nat} {cm : Nat → ClassId} (hf : ∀ j, j < 6 → f j = some (qt (4 + j))) (hfp : ∀ j, j < 8 → fp j = some (Gq (j + 1) 0))
    {H : Heap} {locs : List Loc} {ls : Array Slot} (hP : va_P D cl7 (aW x qg cg pa a ca fp Gq C qs cs f qt ct qr cr qm cm) H) (hD : va_D (fun q => s.heap.size ≤ q) (aW x qg cg pa a ca fp Gq C qs cs f qt ct qr cr qm cm)) (hS : va_S (fun q => s.heap.size ≤ q) s.heap H locs) (hK9 : va_K D cl7 (aT cg ca C cs ct cr cm) s) (hLs : lv_has ls c.maxLocals [(3, .int 0), (2, .ref (qm 0)), (1, .ref x), (0, .ref b)]) :
    W p l e room_1 s m #[Value.ref b] below meth c H locs 106 2072 (lw_Z below #[Value.ref b] s) (F0 m 18 ls []) := by
  obtain ⟨hx, hb, hr, hml, hown, hts, hX, hbl, hlk, hgv⟩ := C0
  have hg := sb_g hts
  have hN := sb_N hts
  have aw : ∀ q, Aw (aF x pa a qg qs qt qr qm Gq adK adV t b) s.heap.size q → s.heap.size ≤ q := fun q h => by
    rcases h with ⟨i, hi, e⟩ | h
    · rw [e]
      exact pl_A hD i hi
    · exact h
  have aK : ∀ i, i < 8 → (aF x pa a qg qs qt qr qm Gq adK adV t b) (200 + i) = adK i := fun i hi => by
    unfold aF
    rw [if_neg (by omega), if_neg (by omega), if_neg (by omega), if_pos (by omega), show 200 + i - 200 = i by omega]
  have aV : ∀ i, i < 8 → (aF x pa a qg qs qt qr qm Gq adK adV t b) (210 + i) = adV i := fun i hi => by
    unfold aF
    rw [if_neg (by omega), if_neg (by omega), if_neg (by omega), if_neg (by omega), if_pos (by omega), show 210 + i - 210 = i by omega]
  have hStr : Str (aF x pa a qg qs qt qr qm Gq adK adV t b) (Aw (aF x pa a qg qs qt qr qm Gq adK adV t b) s.heap.size) s s.heap := ⟨⟨vkS_cg aK aV (vk_S.narrow hS1 aw), va_Z.narrow hS3 aw, hS4.elim (fun h => Or.inl (va_Z.narrow h aw)) (fun h => Or.inr (va_Z.narrow h aw))⟩, fun i hi => by rw [aK i hi]; exact hS2 i hi⟩
  have G' : OK (p, l, e, room_1, s, m, #[Value.ref b], below, meth, c, D, (aF x pa a qg qs qt qr qm Gq adK adV t b), (aC ca cg cs ct cr cm C), lw_Z below #[Value.ref b] s, 106, 2072) RL cL_law 4 ret 12 444 := ⟨hx, hb, hr, hml, hown, hg, hN.1, hK, pl_K hK9, pl_I hD, hlk, hStr, Nat.le_refl 12, Nat.le_refl 444, Nat.le_of_ble_eq_true rfl, Nat.le_of_ble_eq_true rfl⟩
  have hC : SC (p, l, e, room_1, s, m, #[Value.ref b], below, meth, c, D, (aF x pa a qg qs qt qr qm Gq adK adV t b), (aC ca cg cs ct cr cm C), lw_Z below #[Value.ref b] s, 106, 2072) L xs := ⟨hX, hbl, fun h => absurd (aw _ h) (Nat.not_le.mpr hbl)⟩
  have loop := lw_loop G' hC hL (fun i τ => s_iconst (v := 1) G' dL_law_952 rfl (fun H1 locs1 ls1 hP1 hS9 hL1 => va_forget (fun q hq => aw _ (hS9.2.2 q hq)) (W.widen (Nat.le_of_ble_eq_true rfl) (Nat.le_of_ble_eq_true rfl) (lw_ret hx hb hr hlk dL_law_953)))) 2561 0 N0 σ0 (by omega) (by omega) IN0
  refine loop H locs ls (pl_P hP hf hfp) ⟨hS.1, fun q h1 h2 => hS.2.1 q h1 (Nat.not_le.mpr h1), fun l9 hl => Or.inr (hS.2.2 l9 hl)⟩ ⟨hLs.1, hLs.2.1, fun i v hv => ?_⟩
  match i, hv with
  | 0, hv => cases hv; exact hLs.2.2 (0, .ref b) (List.mem_of_getElem? (i := 3) rfl)
  | 1, hv => cases hv; exact hLs.2.2 (1, .ref x) (List.mem_of_getElem? (i := 2) rfl)
  | 2, hv => cases hv; exact hLs.2.2 (2, .ref (qm 0)) (List.mem_of_getElem? (i := 1) rfl)
  | 3, hv => cases hv; exact hLs.2.2 (3, .int 0) (List.mem_of_getElem? (i := 0) rfl)
  | i + 4, hv => simp at hv
set_option maxRecDepth 100000 in
set_option maxHeartbeats 4000000 in
theorem whole_start {p : Program} {e : Env} {s : State} {m : MethodId} {below : List Frame} {meth : Method} {c : Code} (l : Launch) (hflags : l.flags = flags0) {b L : Nat} {xs : Nat → Int32} (hL : L ≤ 2560) (C0 : lw_At p s m meth c b L xs) : W p l e room_1 s m #[Value.ref b] below meth c s.heap [] 0 0 (lw_Z below #[Value.ref b] s) (entryFrame m ([Value.ref b] : List Value).toArray 4) := by
  have C9 := C0
  obtain ⟨hx, hb, hr, hml, hown, hts, hX, hbl, hlk, hgv⟩ := C0
  have hg := sb_g hts
  have hN := sb_N hts
  obtain ⟨D, hK⟩ := sb_K hg
  obtain ⟨adK, adV, t, hS1, hS2, hS3, hS4⟩ := sb_S (b := b) hts hgv
  have hl := lv_entry [Value.ref b] (n := 4) (Nat.le_of_ble_eq_true rfl)
  rw [lg_entry_eq]
  suffices Kq : YW (p, l, e, room_1, s, m, #[Value.ref b], below, meth, c, D, (fun q => s.heap.size ≤ q), lw_Z below #[Value.ref b] s) 0 (lv_args 0 [.ref b]) [] [] [] 0 0 by
    exact Kq s.heap [] _ (fun k q h => by cases h) ⟨fun i j p q h => (by cases h), fun k q h => (by cases h)⟩ va_S.rf hK (by rw [hml]; exact hl)
  have G : OKc (p, l, e, room_1, s, m, #[Value.ref b], below, meth, c, D, (fun q => s.heap.size ≤ q), lw_Z below #[Value.ref b] s) RL cL_law 4 12 444 600000 7302250 := ⟨hx, hb, hml, hown, hg, hN, fun q h => h, Nat.le_refl 12, Nat.le_refl 444, Nat.le_refl 600000, Nat.le_refl 7302250⟩
  refine k_new G 5 rfl (in_g (List.mem_of_getElem? (i := 77) (by decide +kernel)) rfl) is_X5 in_X5 tyX5 tyX5_ok [.null, .null, .null, .null, .null, .int 0, .int 0, .int 0] (fun j hj => by rcases (show j = 0 ∨ j = 1 ∨ j = 2 ∨ j = 3 ∨ j = 4 ∨ j = 5 ∨ j = 6 ∨ j = 7 by omega) with rfl | rfl | rfl | rfl | rfl | rfl | rfl | rfl <;> rfl) (Nat.le_of_ble_eq_true rfl) (Nat.le_of_ble_eq_true rfl) dL_law_0 (fun x => ?_)
  refine k_dup G dL_law_3 rfl ?_
  refine k_call G dL_law_4 c_X5_init lkM_L_9 yk_X5_init ii_X5 rfl rfl [.ref x] rfl (Nat.le_of_ble_eq_true rfl) (by decide) ⟨Nat.le_of_ble_eq_true rfl, Nat.le_of_ble_eq_true rfl⟩ (fun w1 tys1 hp => ?_)
  obtain ⟨qg, cg, wp, tp, qs, cs, f, qt, ct, qr, cr, pa, ⟨a, ca, Gq, C, fp, rfl, rfl, hfp⟩, hf, rfl, rfl⟩ := hp
  refine k_astore (L' := [(1, .ref x), (0, .ref b)]) G dL_law_7 rfl (by decide) rfl ?_
  refine k_new G 6 rfl (in_g (List.mem_of_getElem? (i := 758) (by decide +kernel)) rfl) is_X6 in_X6 tyX6 tyX6_ok [.null, .null, .null, .int 0, .null, .null, .int 0, .int 0, .null, .null, .null, .null, .null, .null, .int 0, .int 0, .long 0, .long 0, .int 0, .null, .null, .null, .null, .int 0, .int 0, .null, .null, .null] (fun j hj => by rcases (show j = 0 ∨ j = 1 ∨ j = 2 ∨ j = 3 ∨ j = 4 ∨ j = 5 ∨ j = 6 ∨ j = 7 ∨ j = 8 ∨ j = 9 ∨ j = 10 ∨ j = 11 ∨ j = 12 ∨ j = 13 ∨ j = 14 ∨ j = 15 ∨ j = 16 ∨ j = 17 ∨ j = 18 ∨ j = 19 ∨ j = 20 ∨ j = 21 ∨ j = 22 ∨ j = 23 ∨ j = 24 ∨ j = 25 ∨ j = 26 ∨ j = 27 by omega) with rfl | rfl | rfl | rfl | rfl | rfl | rfl | rfl | rfl | rfl | rfl | rfl | rfl | rfl | rfl | rfl | rfl | rfl | rfl | rfl | rfl | rfl | rfl | rfl | rfl | rfl | rfl | rfl <;> rfl) (Nat.le_of_ble_eq_true rfl) (Nat.le_of_ble_eq_true rfl) dL_law_8 (fun mo => ?_)
  refine k_dup G dL_law_11 rfl ?_
  refine k_call G dL_law_12 c_X6_init lkM_L_12 yk_X6_init ii_X6 rfl rfl [.ref mo] rfl (Nat.le_of_ble_eq_true rfl) (by decide) ⟨Nat.le_of_ble_eq_true rfl, Nat.le_of_ble_eq_true rfl⟩ (fun w2 tys2 hp => ?_)
  obtain ⟨qm, cm, e0, rfl, rfl⟩ := hp
  subst e0
  refine k_astore (L' := [(2, .ref (qm 0)), (1, .ref x), (0, .ref b)]) G dL_law_15 rfl (by decide) rfl ?_
  refine k_icst (v := 0) G dL_law_16 rfl ?_
  refine k_istore (L' := [(3, .int 0), (2, .ref (qm 0)), (1, .ref x), (0, .ref b)]) G dL_law_17 rfl (by decide) rfl ?_
  show YW _ 18 [(3, .int 0), (2, .ref (qm 0)), (1, .ref x), (0, .ref b)] [] (aW x qg cg pa a ca fp Gq C qs cs f qt ct qr cr qm cm) (aT cg ca C cs ct cr cm) 106 2072
  intro H locs ls hP hD hS hK9 hLs
  exact lw_end l hL C9 hK hS1 hS2 hS3 hS4 hf hfp hP hD hS hK9 hLs
set_option maxHeartbeats 4000000 in
theorem lw_walk (l : Launch) (hflags : l.flags = flags0) (b : Addr) (xs : List Int32) : MetFree l x (headSpec (Jvm.Cond.code x code maxLocals ret :: tables_1) room_1) (lw_P b xs) (fun _ _ _ _ _ => True) lw_Q := by
  refine MetFree.of_bodyS (code := code) (maxLocals := maxLocals) (ret := ret) (by decide) ?_ ?_
  · intro args s m h hn
    obtain ⟨meth, c, h1, h2, h3, h4, h5, h6, -, -⟩ := Cond.code_spec hn (atoms_spec (ws := Jvm.Cond.code x code maxLocals ret :: tables_1) h _ List.mem_cons_self)
    exact ⟨meth, c, h1, h2, h3, h4, h5, h6⟩
  · intro p e s m args below meth c s₁ B hml0 hP _
    obtain ⟨rfl, hx, hbd, hgv⟩ := hP
    obtain ⟨scr, harrAt, hlist, hof, hsmall⟩ := hx
    obtain ⟨hcb, hkn, -, -⟩ := State.arrayAt?_spec harrAt
    have hown : s.vm.findClass R_law = some m.cls := findClass_of_methodNamed B.named
    have hts0 : ∀ c ∈ (Jvm.Cond.code x code maxLocals ret :: tables_1), c.before #[Value.ref b] s = true := atoms_spec (ws := Jvm.Cond.code x code maxLocals ret :: tables_1) B.pre
    have hts : ∀ w ∈ lw_tbl, w.before #[Value.ref b] s = true := k2_hts_sels lw_privs (fun w hw => hts0 w (List.mem_cons_of_mem _ hw)) lw_privs_ok
    have hml : c.maxLocals = 4 := B.maxLocals_eq (hts0 _ List.mem_cons_self)
    have X₀ : Stand p l e room_1 s m #[Value.ref b] below meth c s₁ [] 0 0 := Stand.of_body B
    have hh0 : s₁.heap = s.heap := by rw [B.state]; rfl
    have hsz : scr.slots.size = xs.length := by rw [← Array.length_toList, hlist, List.length_map]
    have hval : ∀ j : Nat, j < xs.length → scr.slots[j]? = some (.int (xs.getD j 0)) := fun j hj => by
      rw [← Array.getElem?_toList, hlist]
      simp [hj]
    have hbl : b < s.heap.size := (Array.getElem?_eq_some_iff.mp hcb).1
    have hX : va_X b xs.length (fun j => xs.getD j 0) s s.heap := ⟨scr, hcb, hof, hkn, hsz, hval⟩
    have K : W p l e room_1 s m #[Value.ref b] below meth c s₁.heap [] 0 0 (lw_Z below #[Value.ref b] s) (entryFrame m ([Value.ref b] : List Value).toArray 4) := by
      rw [hh0]
      exact whole_start l hflags hbd ⟨B.exec, B.bytes, B.returns, hml, hown, hts, hX, hbl, B.notSynchronized, hgv⟩
    obtain ⟨t, a1, o, b1, b2, b3⟩ := K s₁ rfl X₀
    exact ⟨t, o, a1, b1, b2, b3⟩
theorem lw_pre_spec {args : Array Value} {s : State} (h : (Jvm.Cond.and given_1 narrow_1).before args s = true) (hr : rest_1_c.before args s = true) : ∃ (b : Addr) (xs : List Int32), lw_P b xs args s := by
  have hs := flat_of_before _ h
  have hq := flat_of_before _ hr
  have hc : (Cond.count 1).before args s = true := hs _ (by decide +kernel)
  have harr : (Cond.arrayOf (.arg 0) .int).before args s = true := hs _ (by decide +kernel)
  have hle : (Cond.le (.length (.arg 0)) (.int 2560)).before args s = true := hs _ (by decide +kernel)
  have hlen : (Cond.isInt (.length (.arg 0))).before args s = true := hq _ (by decide +kernel)
  have hall : (Cond.all (.arg 0) (.isInt (.elem (.arg 0) (.index 0)))).before args s = true := hq _ (by decide +kernel)
  obtain ⟨b, xs, hb, hx⟩ := State.ints_of_pre rfl harr hlen hall
  have hsm : xs.length < 2 ^ 31 := hx.choose_spec.2.2.2
  have hev : (Term.length (.arg 0)).eval args s none [] s = some (.int xs.length.toInt32) := hx.length_eval hb
  have hv := Cond.le_ints hev (show (Term.int 2560).eval args s none [] s = some (.int 2560) from rfl)
  have hd : xs.length.toInt32 ≤ 2560 := by
    simpa [Cond.before, Cond.holds, hv] using hle
  have hN : xs.length ≤ 2560 := (Int32.ofNat_le_ofNat hsm (by decide)).mp (show Int32.ofNat xs.length ≤ Int32.ofNat 2560 from hd)
  exact ⟨b, xs, Cond.one_arg hc (show args[0]? = some (.ref b) from hb), hx, hN, h⟩
theorem lw_comes (l : Launch) (hflags : l.flags = flags0) : Comes l x (Jvm.Cond.code x code maxLocals ret :: tables_1) room_1 (fun tb e args s => Calls_1 tb e args s ∧ rest_1 tb e args s ∧ Pre_1 tb e args s)
    (fun _ _ args s o t => lw_Q args s o t) := by
  intro p e ha hc hk s m args below hf hfit hheap happ hpre
  obtain ⟨b, xs, hP⟩ := lw_pre_spec hpre.2.2 hpre.2.1
  obtain ⟨k, o, h1, h2, h3, hQ⟩ := lw_walk l hflags b xs p e ha hc hk s m args below hf ((Spec.applies_iff_loose hf).mp happ).1 hP trivial
  exact ⟨k, o, h1, h2, h3, hQ⟩
theorem lw_frame {s t : State} {o : Outcome} {args : Array Value} (h : Framed s o t [] 600000 7302250) :
    Framed s o t (fieldLocs frame_1_writes args s ++ arrayLocs frame_1_arrays args s ++ staticLocs frame_1_statics s) 600000 7302250 := h
theorem lw_limb (L : Cond) (hL : ∀ (args : Array Value) (s t : State), L.after args s (.returned (some (.int 1))) t = true) :
    ArmFor flags0 classFile x code maxLocals ret World_1 tables_1 room_1 Calls_1 rest_1 Pre_1
      (fun tb e a s o t => postC L tb e a s o t ∧ Framed s o t (fieldLocs frame_1_writes a s ++ arrayLocs frame_1_arrays a s ++ staticLocs frame_1_statics s) 600000 7302250) := by
  intro l hflags _ _ p e ha hc hk s m args below hf hfit hheap happ hpre
  obtain ⟨k, o, h1, h2, h3, rfl, hF⟩ := lw_comes l hflags p e ha hc hk s m args below hf hfit hheap happ hpre
  exact ⟨k, _, h1, h2, h3, hL args s _, lw_frame hF⟩
theorem i_vc : Claimed_1_1 ∧ Claimed_1_2 := ⟨lw_limb limb_1_1 (fun args s t => by simp [limb_1_1, Cond.after, Cond.holds, Cond.value]), lw_limb limb_1_2 (fun args s t => Cond.after_iff.mpr (by
  first | (rw [show limb_1_2 = Cond.eq .result (.int 1) from rfl, Cond.eq_ints (x := 1) (y := 1) rfl rfl]; simp; done) | (simp [limb_1_2, Cond.value, Term.eval]; done)))⟩

