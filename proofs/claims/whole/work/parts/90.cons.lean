/-! constructors: the judgement YW (cells made so far, explicit), a row an instruction -/
/-- the array class of rows of longs -/
def AOl (U : State) : Prop := ∃ comp c k, U.vm.findClass "[J" = some comp ∧ U.vm.classes[c]? = some k ∧ k.kind = .array comp (.array .long) ∧ U.vm.findClass "[[J" = some c
theorem AOl.moved {u U : State} (hvm : u.vm.Alike U.vm) (h : AOl u) : AOl U := by
  obtain ⟨comp, c, k, h1, h2, h3, h4⟩ := h
  obtain ⟨k', hk', he⟩ := hvm.2.2 _ _ h2
  exact ⟨comp, c, k', by rw [hvm.findClass]; exact h1, hk', by rw [he]; exact h3, by rw [hvm.findClass]; exact h4⟩
def NW2 (U : State) : Prop := NWs U ∧ va_AO "OutageScreen$Grid" U ∧ AOl U
theorem NW2.warm {s U : State} (hW : s.WarmedH U.vm) (h : NW2 s) : NW2 U := ⟨h.1.warm hW, h.2.1.moved hW.alike, h.2.2.moved hW.alike⟩
theorem NW2.same {u U : State} (hv : u.vm = U.vm) (h : NW2 u) : NW2 U := ⟨h.1.same hv, h.2.1.moved (by rw [hv]; exact Vm.Alike.refl _), h.2.2.moved (by rw [hv]; exact Vm.Alike.refl _)⟩
abbrev Cy : Type := Program × Launch × Env × Room × State × MethodId × Array Value × List Frame × Method × Code × va_G × (Nat → Prop) × (State → Prop)
abbrev Tys : Type := List (ClassId × FieldType)
def YW (Γ : Cy) (pc : Nat) (L : List (Nat × Value)) (st : List Value) (ws : va_W) (tys : Tys) (nc ns : Nat) : Prop :=
  match Γ with
  | (p, l, e, R, s, m, args, below, meth, c, D, A, Q) => ∀ (H : Heap) (locs : List Loc) (ls : Array Slot), va_P D cl7 ws H → va_D A ws → va_S A s.heap H locs → va_K D cl7 tys s → lv_has ls c.maxLocals L → W p l e R s m args below meth c H locs nc ns Q (F0 m pc ls st)
def OKc (Γ : Cy) (own : String) (cc : ByteArray) (nL fr lo NC NS : Nat) : Prop :=
  match Γ with
  | (p, l, e, R, s, m, args, below, meth, c, D, A, Q) => p.tables.exec = Jvm.exec ∧ c.code = cc ∧ c.maxLocals = nL ∧ s.vm.findClass own = some m.cls ∧ (∀ w ∈ lw_g, w.before args s = true) ∧ NW2 s ∧ (∀ q, s.heap.size ≤ q → A q) ∧ (fr ≤ R.frames ∧ lo ≤ R.locals ∧ NC ≤ R.cells ∧ NS ≤ R.slots)
/-- in a constructor -/
def INi (Γ : Cy) : Prop := match Γ with
  | (p, l, e, R, s, m, args, below, meth, c, D, A, Q) => meth.name = "<init>"
section RY
variable {Γ : Cy} {own : String} {cc : ByteArray} {nL fr lo NC NS pc nc ns : Nat} {L : List (Nat × Value)} {st : List Value} {ws : va_W} {tys : Tys}
theorem k_aload (G : OKc Γ own cc nL fr lo NC NS) {j : Fin 4} {i x : Nat} (hd : decode cc pc = .ok (.aload_n j, 1)) (hj : (j : Nat) = i) (k : Nat) (hk : L[k]? = some (i, .ref x)) (kk : YW Γ (pc + 1) L (.ref x :: st) ws tys nc ns) : YW Γ pc L st ws tys nc ns := by
  obtain ⟨p, l, e, R, s, m, args, below, meth, c, D, A, Q⟩ := Γ
  obtain ⟨hx, hb, hml, hown, hts, hN, hA, hR⟩ := G
  intro H locs ls hP hD hS hK hL
  exact lv_aload_n hx hb hd hj (lv_at hL k hk) (kk H locs ls hP hD hS hK hL)
theorem k_iload (G : OKc Γ own cc nL fr lo NC NS) {j : Fin 4} {i : Nat} {x : Int32} (hd : decode cc pc = .ok (.iload_n j, 1)) (hj : (j : Nat) = i) (k : Nat) (hk : L[k]? = some (i, .int x)) (kk : YW Γ (pc + 1) L (.int x :: st) ws tys nc ns) : YW Γ pc L st ws tys nc ns := by
  obtain ⟨p, l, e, R, s, m, args, below, meth, c, D, A, Q⟩ := Γ
  obtain ⟨hx, hb, hml, hown, hts, hN, hA, hR⟩ := G
  intro H locs ls hP hD hS hK hL
  exact lv_iload_n hx hb hd hj (lv_at hL k hk) (kk H locs ls hP hD hS hK hL)
theorem k_bip (G : OKc Γ own cc nL fr lo NC NS) {n : Int} {v : Int32} (hd : decode cc pc = .ok (.bipush n, 2)) (hv : (Int8.ofInt n).toInt32 = v) (kk : YW Γ (pc + 2) L (.int v :: st) ws tys nc ns) : YW Γ pc L st ws tys nc ns := by
  obtain ⟨p, l, e, R, s, m, args, below, meth, c, D, A, Q⟩ := Γ
  obtain ⟨hx, hb, hml, hown, hts, hN, hA, hR⟩ := G
  intro H locs ls hP hD hS hK hL
  exact lv_bipush hx hb hd hv (kk H locs ls hP hD hS hK hL)
theorem k_sip (G : OKc Γ own cc nL fr lo NC NS) {n : Int} {v : Int32} (hd : decode cc pc = .ok (.sipush n, 3)) (hv : (Int16.ofInt n).toInt32 = v) (kk : YW Γ (pc + 3) L (.int v :: st) ws tys nc ns) : YW Γ pc L st ws tys nc ns := by
  obtain ⟨p, l, e, R, s, m, args, below, meth, c, D, A, Q⟩ := Γ
  obtain ⟨hx, hb, hml, hown, hts, hN, hA, hR⟩ := G
  intro H locs ls hP hD hS hK hL
  exact lv_sipush hx hb hd hv (kk H locs ls hP hD hS hK hL)
theorem k_icst (G : OKc Γ own cc nL fr lo NC NS) {n : Int} {v : Int32} (hd : decode cc pc = .ok (.iconst n, 1)) (hv : Int32.ofInt n = v) (kk : YW Γ (pc + 1) L (.int v :: st) ws tys nc ns) : YW Γ pc L st ws tys nc ns := by
  obtain ⟨p, l, e, R, s, m, args, below, meth, c, D, A, Q⟩ := Γ
  obtain ⟨hx, hb, hml, hown, hts, hN, hA, hR⟩ := G
  intro H locs ls hP hD hS hK hL
  exact lv_iconst hx hb hd hv (kk H locs ls hP hD hS hK hL)
theorem k_lcst (G : OKc Γ own cc nL fr lo NC NS) {n : Fin 2} {v : Int64} (hd : decode cc pc = .ok (.lconst n, 1)) (hv : Int64.ofNat (n : Nat) = v) (kk : YW Γ (pc + 1) L (.long v :: st) ws tys nc ns) : YW Γ pc L st ws tys nc ns := by
  obtain ⟨p, l, e, R, s, m, args, below, meth, c, D, A, Q⟩ := Γ
  obtain ⟨hx, hb, hml, hown, hts, hN, hA, hR⟩ := G
  intro H locs ls hP hD hS hK hL
  exact lv_lconst hx hb hd hv (kk H locs ls hP hD hS hK hL)
theorem k_dup (G : OKc Γ own cc nL fr lo NC NS) {v : Value} (hd : decode cc pc = .ok (.dup, 1)) (hc : v.category = 1) (kk : YW Γ (pc + 1) L (v :: v :: st) ws tys nc ns) : YW Γ pc L (v :: st) ws tys nc ns := by
  obtain ⟨p, l, e, R, s, m, args, below, meth, c, D, A, Q⟩ := Γ
  obtain ⟨hx, hb, hml, hown, hts, hN, hA, hR⟩ := G
  intro H locs ls hP hD hS hK hL
  exact lv_dup hx hb hd hc (kk H locs ls hP hD hS hK hL)
theorem k_istore (G : OKc Γ own cc nL fr lo NC NS) {j : Fin 4} {i : Nat} {x : Int32} {L' : List (Nat × Value)} (hd : decode cc pc = .ok (.istore_n j, 1)) (hj : (j : Nat) = i) (hn : i < nL) (hl : (i, Value.int x) :: L.filter (fun q => !(q.1 == i) && !(q.1 + 1 == i && q.2.category == 2)) = L') (kk : YW Γ (pc + 1) L' st ws tys nc ns) : YW Γ pc L (.int x :: st) ws tys nc ns := by
  obtain ⟨p, l, e, R, s, m, args, below, meth, c, D, A, Q⟩ := Γ
  obtain ⟨hx, hb, hml, hown, hts, hN, hA, hR⟩ := G
  intro H locs ls hP hD hS hK hL
  exact lv_istore_n hx hb hd hj hL (by rw [hml]; exact hn) hl (fun ls' hL' => kk H locs ls' hP hD hS hK hL')
theorem k_astore (G : OKc Γ own cc nL fr lo NC NS) {j : Fin 4} {i : Nat} {x : Nat} {L' : List (Nat × Value)} (hd : decode cc pc = .ok (.astore_n j, 1)) (hj : (j : Nat) = i) (hn : i < nL) (hl : (i, Value.ref x) :: L.filter (fun q => !(q.1 == i) && !(q.1 + 1 == i && q.2.category == 2)) = L') (kk : YW Γ (pc + 1) L' st ws tys nc ns) : YW Γ pc L (.ref x :: st) ws tys nc ns := by
  obtain ⟨p, l, e, R, s, m, args, below, meth, c, D, A, Q⟩ := Γ
  obtain ⟨hx, hb, hml, hown, hts, hN, hA, hR⟩ := G
  intro H locs ls hP hD hS hK hL
  exact lv_astore_n hx hb hd hj hL (by rw [hml]; exact hn) hl (fun ls' hL' => kk H locs ls' hP hD hS hK hL')
theorem k_iinc (G : OKc Γ own cc nL fr lo NC NS) {i k : Nat} {n : Int} {x v : Int32} {L' : List (Nat × Value)} (hd : decode cc pc = .ok (.iinc i n, 3)) (hk : L[k]? = some (i, .int x)) (hv : x + Int32.ofInt n = v) (hn : i < nL) (hl : (i, Value.int v) :: L.filter (fun q => !(q.1 == i) && !(q.1 + 1 == i && q.2.category == 2)) = L') (kk : YW Γ (pc + 3) L' st ws tys nc ns) : YW Γ pc L st ws tys nc ns := by
  obtain ⟨p, l, e, R, s, m, args, below, meth, c, D, A, Q⟩ := Γ
  obtain ⟨hx, hb, hml, hown, hts, hN, hA, hR⟩ := G
  intro H locs ls hP hD hS hK hL
  exact lv_iinc hx hb hd hL hk hv (by rw [hml]; exact hn) hl (fun ls' hL' => kk H locs ls' hP hD hS hK hL')
theorem k_icge (G : OKc Γ own cc nL fr lo NC NS) {x y : Int32} {off : Int} {tgt : Nat} (hd : decode cc pc = .ok (.if_icmp .ge off, 3)) (ht : (pc : Int) + off = (tgt : Int)) (kt : y ≤ x → YW Γ tgt L st ws tys nc ns) (kf : ¬ y ≤ x → YW Γ (pc + 3) L st ws tys nc ns) : YW Γ pc L (.int y :: .int x :: st) ws tys nc ns := by
  obtain ⟨p, l, e, R, s, m, args, below, meth, c, D, A, Q⟩ := Γ
  obtain ⟨hx, hb, hml, hown, hts, hN, hA, hR⟩ := G
  intro H locs ls hP hD hS hK hL
  exact lv_icmp_ge hx hb hd ht (fun c => kt c H locs ls hP hD hS hK hL) (fun c => kf c H locs ls hP hD hS hK hL)
theorem k_goto (G : OKc Γ own cc nL fr lo NC NS) {off : Int} {tgt : Nat} (hd : decode cc pc = .ok (.goto off, 3)) (ht : (pc : Int) + off = (tgt : Int)) (kk : YW Γ tgt L st ws tys nc ns) : YW Γ pc L st ws tys nc ns := by
  obtain ⟨p, l, e, R, s, m, args, below, meth, c, D, A, Q⟩ := Γ
  obtain ⟨hx, hb, hml, hown, hts, hN, hA, hR⟩ := G
  intro H locs ls hP hD hS hK hL
  exact lv_goto hx hb hd ht (kk H locs ls hP hD hS hK hL)
theorem k_oi (G : OKc Γ own cc nL fr lo NC NS) {idx a : Nat} (hl : Cond.methodLink own idx Lib.objectInit ∈ lw_g) (hi : Cond.instanceMethod Lib.objectInit ∈ lw_g) (hc : Cond.code Lib.objectInit ⟨#[0xb1]⟩ 1 none ∈ lw_g) (hd : decode cc pc = .ok (.invokespecial idx, 3)) (hr : 1 ≤ fr ∧ 20 ≤ lo) (hcat : (st.map fun v => v.category).sum ≤ 8) (kk : YW Γ (pc + 3) L st ws tys nc ns) : YW Γ pc L (.ref a :: st) ws tys nc ns := by
  obtain ⟨p, l, e, R, s, m, args, below, meth, c, D, A, Q⟩ := Γ
  obtain ⟨hx, hb, hml, hown, hts, hN, hA, hR⟩ := G
  intro H locs ls hP hD hS hK hL
  refine W.objInit hx hb hown (hts _ hl) (hts _ hi) (hts _ hc) rfl hL.1 rfl hd (Nat.le_trans hr.1 hR.1) ?_ (kk H locs ls hP hD hS hK hL)
  have := lv_room (m := m) (pc := pc) (ls := ls) (rest := .ref a :: st) hcat
  have h2 := hR.2.1
  omega
theorem k_newa (G : OKc Γ own cc nL fr lo NC NS) {atype : ArrayType} (ty : FieldType) (hty : newarray.typeOf atype = ty) (hc : Cond.arrayClass ty ∈ lw_g) {n : Int32} (N' : Nat) (a0 : vp_A) (ha : ∀ cA : ClassId, vp_cell cA a0 = arrV cA N' (fun _ => defaultValue ty)) (hn : ¬ n < 0) (hN' : n.toNatClampNeg = N') (hby : N' * componentBytes ty ≤ 536870912) (h1 : nc + 1 ≤ NC) (h2 : ns + N' ≤ NS) (hd : decode cc pc = .ok (.newarray atype, 2))
    (kk : ∀ (q : Nat) (cA : ClassId), YW Γ (pc + 2) L (.ref q :: st) (ws ++ [(q, .inl (cA, a0))]) (tys ++ [(cA, ty)]) (nc + 1) (ns + N')) : YW Γ pc L (.int n :: st) ws tys nc ns := by
  obtain ⟨p, l, e, R, s, m, args, below, meth, c, D, A, Q⟩ := Γ
  obtain ⟨hx, hb, hml, hown, hts, hN, hA, hR⟩ := G
  intro H locs ls hP hD hS hK hL
  exact va_newa hx hb (by rw [hty]; exact hts _ hc) hty hK hP hD hS hA ha hn hN' hby (Nat.le_trans h1 hR.2.2.1) (Nat.le_trans h2 hR.2.2.2) hd (fun q cA H1 hK1 hP1 hD1 hS1 => kk q cA H1 locs ls hP1 hD1 hS1 hK1 hL)
theorem k_putF (G : OKc Γ own cc nL fr lo NC NS) (hI : INi Γ) {C : String} {T : u_T} {N ci idx a : Nat} {fs : List Value} (q0 : Nat) (he : ws[q0]? = some (a, .inr (ci, fs))) (hc : cl7[ci]? = some (C, T, N)) (k : Nat) (hk : k < N) (hl : Cond.fieldLink own idx (T k).1 (T k).2.1 (T k).2.2.1 ∈ lw_g) (hf : (T k).2.2.2 = true) (hdec : (T k).1 = own) {ty : FieldType} {v : Value} (hty : parseFieldDescriptor (T k).2.2.1 = some ty) (hnw : narrow ty v = v) (hfit : fits ty v = true) (hlen : k < fs.length) (hd : decode cc pc = .ok (.putfield idx, 3))
    (ws' : va_W) (hws : ws.set q0 (a, .inr (ci, fs.set k v)) = ws') (kk : YW Γ (pc + 3) L st ws' tys nc ns) : YW Γ pc L (v :: .ref a :: st) ws tys nc ns := by
  obtain ⟨p, l, e, R, s, m, args, below, meth, c, D, A, Q⟩ := Γ
  obtain ⟨hx, hb, hml, hown, hts, hN, hA, hR⟩ := G
  obtain ⟨f1, ⟨ty0, f2⟩, f3⟩ := cfa hc
  subst hws
  intro H locs ls hP hD hS hK hL
  exact va_putF hx hb hts f1 ty0 f2 f3 hown hK hP hD hS q0 he hc k hk (hts _ hl) (fun _ h => h) hf hI hdec hty hnw hfit hlen hd (fun H1 locs1 hP1 hD1 hS1 => kk H1 locs1 ls hP1 hD1 hS1 hK hL)
theorem k_put (G : OKc Γ own cc nL fr lo NC NS) {C : String} {T : u_T} {N ci idx a : Nat} {fs : List Value} (q0 : Nat) (he : ws[q0]? = some (a, .inr (ci, fs))) (hc : cl7[ci]? = some (C, T, N)) (k : Nat) (hk : k < N) (hl : Cond.fieldLink own idx (T k).1 (T k).2.1 (T k).2.2.1 ∈ lw_g) (hf : (T k).2.2.2 = false) {ty : FieldType} {v : Value} (hty : parseFieldDescriptor (T k).2.2.1 = some ty) (hnw : narrow ty v = v) (hfit : fits ty v = true) (hlen : k < fs.length) (hd : decode cc pc = .ok (.putfield idx, 3))
    (ws' : va_W) (hws : ws.set q0 (a, .inr (ci, fs.set k v)) = ws') (kk : YW Γ (pc + 3) L st ws' tys nc ns) : YW Γ pc L (v :: .ref a :: st) ws tys nc ns := by
  obtain ⟨p, l, e, R, s, m, args, below, meth, c, D, A, Q⟩ := Γ
  obtain ⟨hx, hb, hml, hown, hts, hN, hA, hR⟩ := G
  obtain ⟨f1, ⟨ty0, f2⟩, f3⟩ := cfa hc
  subst hws
  intro H locs ls hP hD hS hK hL
  exact va_put hx hb hts f1 ty0 f2 f3 hown hK hP hD hS q0 he hc k hk (hts _ hl) (fun _ h => h) hf hty hnw hfit hlen hd (fun H1 locs1 hP1 hD1 hS1 => kk H1 locs1 ls hP1 hD1 hS1 hK hL)
theorem k_get (G : OKc Γ own cc nL fr lo NC NS) {C : String} {T : u_T} {N ci idx a : Nat} {fs : List Value} {v : Value} (q0 : Nat) (he : ws[q0]? = some (a, .inr (ci, fs))) (hc : cl7[ci]? = some (C, T, N)) (k : Nat) (hk : k < N) (hl : Cond.fieldLink own idx (T k).1 (T k).2.1 (T k).2.2.1 ∈ lw_g) (hv : fs[k]? = some v) (hd : decode cc pc = .ok (.getfield idx, 3)) (kk : YW Γ (pc + 3) L (v :: st) ws tys nc ns) : YW Γ pc L (.ref a :: st) ws tys nc ns := by
  obtain ⟨p, l, e, R, s, m, args, below, meth, c, D, A, Q⟩ := Γ
  obtain ⟨hx, hb, hml, hown, hts, hN, hA, hR⟩ := G
  intro H locs ls hP hD hS hK hL
  exact va_get hx hb hts (cfa hc).1 hown hK hP q0 he hc k hk (hts _ hl) (fun _ q => q) hv hd (kk H locs ls hP hD hS hK hL)
theorem k_new (G : OKc Γ own cc nL fr lo NC NS) {C : String} {T : u_T} {N idx : Nat} (ci : Nat) (hc : cl7[ci]? = some (C, T, N)) (hcl : Cond.classLink own idx C ∈ lw_g) (hins : Cond.instantiable C N ∈ lw_g) (hini : Cond.initialized C ∈ lw_g) (ty : Nat → FieldType) (hty : ∀ k, k < N → parseFieldDescriptor (T k).2.2.1 = some (ty k)) (fs : List Value) (hfs : ∀ j, j < N → defaultValue (ty j) = vp_V fs j) (h1 : nc + 1 ≤ NC) (h2 : ns + N ≤ NS) (hd : decode cc pc = .ok (.new idx, 3))
    (kk : ∀ q : Nat, YW Γ (pc + 3) L (.ref q :: st) (ws ++ [(q, .inr (ci, fs))]) tys (nc + 1) (ns + N)) : YW Γ pc L st ws tys nc ns := by
  obtain ⟨p, l, e, R, s, m, args, below, meth, c, D, A, Q⟩ := Γ
  obtain ⟨hx, hb, hml, hown, hts, hN, hA, hR⟩ := G
  intro H locs ls hP hD hS hK hL
  exact va_new hx hb hts (cfa hc).1 ty hty hown (hts _ hcl) (hts _ hins) (hts _ hini) hK hP hD hS hA hc hfs (Nat.le_trans h1 hR.2.2.1) (Nat.le_trans h2 hR.2.2.2) hd (fun q H1 hP1 hD1 hS1 => kk q H1 locs ls hP1 hD1 hS1 hK hL)
theorem k_iast (G : OKc Γ own cc nL fr lo NC NS) {cA : ClassId} {n a : Nat} {f : Nat → Int32} (q0 t0 : Nat) (ha : ws[q0]? = some (a, .inl (cA, n, .inl f))) (ht : tys[t0]? = some (cA, .int)) {i x : Int32} (hin : ib i n = true) (hd : decode cc pc = .ok (.iastore, 1)) (ws' : va_W) (hws : ws.set q0 (a, .inl (cA, n, .inl (upd f i.toNatClampNeg x))) = ws') (kk : YW Γ (pc + 1) L st ws' tys nc ns) : YW Γ pc L (.int x :: .int i :: .ref a :: st) ws tys nc ns := by
  obtain ⟨p, l, e, R, s, m, args, below, meth, c, D, A, Q⟩ := Γ
  obtain ⟨hx, hb, hml, hown, hts, hN, hA, hR⟩ := G
  subst hws
  intro H locs ls hP hD hS hK hL
  exact va_iast hx hb hK hP hD hS q0 t0 ha ht (ib_in hin) hd (fun H1 locs1 hP1 hD1 hS1 => kk H1 locs1 ls hP1 hD1 hS1 hK hL)
theorem k_ast (G : OKc Γ own cc nL fr lo NC NS) {cA : ClassId} {r : vw_C} {n a v : Nat} {vs : List Value} {f : Nat → Option Nat} (q0 t0 qk ci : Nat) (ha : ws[q0]? = some (a, .inl (cA, n, .inr (.inr (.inr (.inr f)))))) (ht : tys[t0]? = some (cA, .object r.1)) (hv : ws[qk]? = some (v, .inr (ci, vs))) (hc : cl7[ci]? = some r) {i : Int32} (hin : ib i n = true) (hd : decode cc pc = .ok (.aastore, 1)) (ws' : va_W) (hws : ws.set q0 (a, .inl (cA, n, .inr (.inr (.inr (.inr (va_up f i.toNatClampNeg (some v))))))) = ws') (kk : YW Γ (pc + 1) L st ws' tys nc ns) : YW Γ pc L (.ref v :: .int i :: .ref a :: st) ws tys nc ns := by
  obtain ⟨p, l, e, R, s, m, args, below, meth, c, D, A, Q⟩ := Γ
  obtain ⟨hx, hb, hml, hown, hts, hN, hA, hR⟩ := G
  subst hws
  intro H locs ls hP hD hS hK hL
  exact va_astq hx hb hK hP hD hS q0 t0 qk ci ha ht hv hc (ib_in hin) hd (fun H1 locs1 hP1 hD1 hS1 => kk H1 locs1 ls hP1 hD1 hS1 hK hL)
theorem k_newq (G : OKc Γ own cc nL fr lo NC NS) {idx : Nat} (hcl : Cond.classLink own idx "OutageScreen$Grid" ∈ lw_g) {n : Int32} (N' : Nat) (hn : ¬ n < 0) (hN' : n.toNatClampNeg = N') (hby : N' * 4 ≤ 536870912) (h1 : nc + 1 ≤ NC) (h2 : ns + N' ≤ NS) (hd : decode cc pc = .ok (.anewarray idx, 3))
    (kk : ∀ (q : Nat) (cA : ClassId), YW Γ (pc + 3) L (.ref q :: st) (ws ++ [(q, .inl (cA, N', .inr (.inr (.inr (.inr (fun _ => none))))))]) (tys ++ [(cA, .object "OutageScreen$Grid")]) (nc + 1) (ns + N')) : YW Γ pc L (.int n :: st) ws tys nc ns := by
  obtain ⟨p, l, e, R, s, m, args, below, meth, c, D, A, Q⟩ := Γ
  obtain ⟨hx, hb, hml, hown, hts, hN, hA, hR⟩ := G
  intro H locs ls hP hD hS hK hL
  exact va_newq hx hb hown (hts _ hcl) hN.2.1 hK hP hD hS hA hn hN' hby (Nat.le_trans h1 hR.2.2.1) (Nat.le_trans h2 hR.2.2.2) hd (fun q cA H1 hK1 hP1 hD1 hS1 => kk q cA H1 locs ls hP1 hD1 hS1 hK1 hL)
end RY
/-- a constructor's contract: on a new cell it makes the cells w with the array classes tys, so that post -/
abbrev MkP : Type := va_W → Tys → Prop
def Pk (D : va_G) (av : List Value) (w0 : va_W) (sz : Nat) : Array Value → State → Prop := fun v U => v = av.toArray ∧ U.heap.size = sz ∧ va_P D cl7 w0 U.heap ∧ va_K D cl7 [] U ∧ NW2 U ∧ va_D (fun _ => True) w0
def Qk (D : va_G) (post : MkP) (A : Nat → Prop) : Array Value → State → Outcome → State → Prop := va_Qv (S := va_W × Tys) (fun u => post u.1 u.2) (fun u t => va_P D cl7 u.1 t.heap ∧ va_K D cl7 u.2 t ∧ va_D A u.1) A
def Mk (M : Me) (ci : Nat) (fs0 : List Value) (As : List Value) (mc ms : Nat) (post : Nat → MkP) : Prop :=
  match M with
  | (y, cc, nL, rt, fr, lo) => ∀ (l : Launch) (D : va_G) (h0 sz : Nat), Met l y (wU y cc nL rt) { frames := fr, cells := mc, slots := ms, locals := lo } (Pk D (.ref h0 :: As) [(h0, .inr (ci, fs0))] sz) (Qk D (post h0) (va_A [(h0, .inr (ci, fs0))] sz)) mc ms (va_A [(h0, .inr (ci, fs0))] sz)
theorem Pk_blind {D : va_G} {av : List Value} {w0 : va_W} {sz : Nat} : FrameBlind (Pk D av w0 sz) := by
  intro a U g mk q
  obtain ⟨q0, q1, qP, qK, qN, qD⟩ := q
  exact ⟨q0, q1, qP, va_K.moved (u := U) (U := U.calling g mk a) (Vm.Alike.refl U.vm) qK, NW2.same (u := U) (U := U.calling g mk a) rfl qN, qD⟩
def RetC (Γ : Cy) (post : MkP) (mc ms : Nat) : Prop := match Γ with
  | (p, l, e, R, s, m, args, below, meth, c, D, A, Q) => Q = MQ below (Qk D post A) args s mc ms A ∧ meth.sig.returnType = none ∧ meth.locks = false
theorem mk_of {y : MethodName} {cc : ByteArray} {nL fr lo ci mc ms : Nat} {fs0 As : List Value} {post : Nat → MkP} (hy : plainName y.cls = true) (hyn : y.name = "<init>") (hn : ∀ h0 : Nat, (lg_sl (.ref h0 :: As)).length ≤ nL) (body : ∀ (Γ : Cy) (h0 : Nat), OKc Γ y.cls cc nL fr lo mc ms → INi Γ → RetC Γ (post h0) mc ms → YW Γ 0 (lv_args 0 (.ref h0 :: As)) [] [(h0, .inr (ci, fs0))] [] 0 0) : Mk (y, cc, nL, none, fr, lo) ci fs0 As mc ms post := by
  intro l D h0 sz
  refine Met.ofW (cc := cc) (maxL := nL) (ret := none) hy rfl ?_
  intro p e s m args below meth c s₁ B hml hv
  obtain ⟨rfl, hsz, hP, hK, hN, hD0⟩ := hv
  subst hsz
  have hts := atoms_spec (ws := wU y cc nL none) B.pre
  have hown : s.vm.findClass y.cls = some m.cls := findClass_of_methodNamed B.named
  have hin : meth.name = y.name := (name_of_methodNamed B.named B.method).1
  have hl := lv_entry (.ref h0 :: As) (n := nL) (hn h0)
  rw [lg_entry_eq]
  have h1 := body (p, l, e, (headSpec (wU y cc nL none) { frames := fr, cells := mc, slots := ms, locals := lo }).room, s, m, (Value.ref h0 :: As).toArray, below, meth, c, D, va_A [(h0, .inr (ci, fs0))] s.heap.size, MQ below (Qk D (post h0) (va_A [(h0, .inr (ci, fs0))] s.heap.size)) (Value.ref h0 :: As).toArray s mc ms (va_A [(h0, .inr (ci, fs0))] s.heap.size)) h0 ⟨B.exec, B.bytes, hml, hown, fun w hw => hts w (List.mem_cons_of_mem _ hw), hN, fun q h => Or.inr h, Nat.le_refl _, Nat.le_refl _, Nat.le_refl _, Nat.le_refl _⟩ (hin.trans hyn) ⟨rfl, B.returns, B.notSynchronized⟩
  exact h1 s.heap [] _ hP hD0.self va_S.rf hK (by rw [hml]; exact hl)
section RY2
variable {Γ : Cy} {own : String} {cc cc2 : ByteArray} {nL fr lo NC NS pc nc ns nL2 fr2 lo2 n idx ci mc ms : Nat} {L : List (Nat × Value)} {st : List Value} {ws : va_W} {tys : Tys} {fs0 As : List Value} {post : Nat → MkP} {y : MethodName}
theorem k_vret (G : OKc Γ own cc nL fr lo NC NS) {po : MkP} (hR : RetC Γ po mc ms) (hp : po ws tys) (hd : decode cc pc = .ok (.return_, 1)) : YW Γ pc L [] ws tys mc ms := by
  obtain ⟨p, l, e, R, s, m, args, below, meth, c, D, A, Q⟩ := Γ
  obtain ⟨hx, hb, hml, hown, hts, hN, hA, hRo⟩ := G
  obtain ⟨hQ, hr, hlk⟩ := hR
  subst hQ
  intro H locs ls hP hD hS hK hL
  exact W.vret hx hb hr (fun t ht hW => ⟨⟨(ws, tys), rfl, hp, by rw [ht]; exact hP, va_K.moved hW.alike hK, hD⟩, hS.F ht⟩) hS.2.2 hd
theorem k_call {q : Nat} (G : OKc Γ own cc nL fr lo NC NS) (hd : decode cc pc = .ok (.invokespecial idx, 3)) (hM : Mk (y, cc2, nL2, none, fr2, lo2) ci fs0 As mc ms post) (hl : LkM own idx y) (hY : Yok y cc2 nL2 none n) (hi : Cond.instanceMethod y ∈ lw_g) (hyn : y.name = "<init>") (hn : As.length = n) (rest : List Value) (hst : st = As.reverse ++ .ref q :: rest) (hcat : (rest.map fun v => v.category).sum ≤ 8) (hro : fr2 + 1 ≤ fr ∧ 8 + (nL2 + 11) + lo2 ≤ lo) (hnc : nc + mc ≤ NC ∧ ns + ms ≤ NS)
    (kk : ∀ (w1 : va_W) (tys1 : Tys), post q w1 tys1 → YW Γ (pc + 3) L rest (ws ++ w1) (tys ++ tys1) (nc + mc) (ns + ms)) : YW Γ pc L st (ws ++ [(q, .inr (ci, fs0))]) tys nc ns := by
  subst hst
  obtain ⟨p, l, e, R, s, m, args, below, meth, c, D, A, Q⟩ := Γ
  obtain ⟨hx, hb, hml, hown, hts, hN, hA, hR⟩ := G
  obtain ⟨hY1, hY2, hY3, hY4⟩ := hY
  intro H locs ls hP hD hS hK hL
  have hm := hM l D q H.size
  have hG := wU_good hY1
  have hpay := pay_in hts hG
  have hpar : ∀ sig, parseMethodDescriptor y.desc = some sig → n = sig.parameters.length := fun sig h => by rw [h] at hY4; exact (Option.some.inj hY4).symm
  have hcat2 : 2 * (F0 m pc ls (As.reverse ++ .ref q :: rest)).monitorRoom + (rest.map fun v => v.category).sum ≤ 8 := lv_room hcat
  have hro1 : fr2 + 1 ≤ R.frames := Nat.le_trans hro.1 hR.1
  have hro2 : 8 + (nL2 + 11) + lo2 ≤ R.locals := Nat.le_trans hro.2 hR.2.1
  have hnc1 : nc + mc ≤ R.cells ∧ ns + ms ≤ R.slots := ⟨Nat.le_trans hnc.1 hR.2.2.1, Nat.le_trans hnc.2 hR.2.2.2⟩
  have hcode := hts _ hY1
  have hini := hts _ hY2
  -- the new cell, and the others
  have at1 : (ws ++ [(q, Sum.inr (ci, fs0))])[ws.length]? = some (q, .inr (ci, fs0)) := by rw [List.getElem?_append_right (Nat.le_refl _), Nat.sub_self]; rfl
  have at0 : ∀ (k : Nat) (x : Nat × va_E), ws[k]? = some x → (ws ++ [(q, Sum.inr (ci, fs0))])[k]? = some x ∧ k < ws.length := fun k x hx => by
    have hlt : k < ws.length := (List.getElem?_eq_some_iff.mp hx).1
    exact ⟨by rw [List.getElem?_append_left hlt]; exact hx, hlt⟩
  have hPc : va_P D cl7 [(q, .inr (ci, fs0))] H := fun k x hx => by
    match k, hx with
    | 0, hx => cases hx; exact hP _ _ at1
    | k + 1, hx => simp at hx
  have hDc : va_D (fun _ => True) [(q, Sum.inr (ci, fs0))] := ⟨fun i j a b ha hb _ => by
    match i, j, ha, hb with
    | 0, 0, _, _ => rfl
    | i + 1, _, ha, _ => simp at ha
    | 0, j + 1, _, hb => simp at hb, fun _ _ _ => trivial⟩
  have hqA : A q := hD.2 _ _ at1
  have hFc : ∀ a, va_A [(q, Sum.inr (ci, fs0))] H.size a → A a := fun a h => by
    rcases h with ⟨k, e, h⟩ | h
    · match k, h with
      | 0, h => cases h; exact hqA
      | k + 1, h => simp at h
    · exact hA a (Nat.le_trans hS.1 h)
  have nA : ∀ (k : Nat) (x : Nat × va_E), ws[k]? = some x → x.1 < H.size ∧ ¬ va_A [(q, Sum.inr (ci, fs0))] H.size x.1 := fun k x hx => by
    obtain ⟨h1, h2⟩ := at0 k x hx
    have lt := (hP k x h1).lt
    refine ⟨lt, fun h => ?_⟩
    rcases h with ⟨j, e, h⟩ | h
    · match j, h with
      | 0, h =>
        have e1 : x.1 = q := by cases h; rfl
        have := hD.1 k ws.length x _ h1 at1 e1
        omega
      | j + 1, h => simp at h
    · omega
  have hpre : ∀ U : State, U.heap = H → s.WarmedH U.vm → Pk D (.ref q :: As) [(q, .inr (ci, fs0))] H.size (Value.ref q :: As).toArray U := fun U hU hW => ⟨rfl, by rw [hU], by rw [hU]; exact hPc, (va_K.moved hW.alike hK).sub [] rfl, hN.warm hW, hDc⟩
  have hfin : ∀ (u : va_W × Tys) (t : State) (H1 : Heap) (locs1 : List Loc), t.heap = H1 → s.vm.Alike t.vm → post q u.1 u.2 → (va_P D cl7 u.1 t.heap ∧ va_K D cl7 u.2 t ∧ va_D (va_A [(q, .inr (ci, fs0))] H.size) u.1) → H.size ≤ H1.size → (∀ a : Nat, a < H.size → ¬ va_A [(q, Sum.inr (ci, fs0))] H.size a → H1[a]? = H[a]?) → va_S A s.heap H1 locs1 → W p l e R s m args below meth c H1 locs1 (nc + mc) (ns + ms) Q (F0 m (pc + 3) ls rest) := by
    intro u t H1 locs1 ht hvm hp hB hz hk hS1
    obtain ⟨hP1, hK1, hD1⟩ := hB
    rw [ht] at hP1
    have hP2 : va_P D cl7 (ws ++ u.1) H1 := ((show va_P D cl7 ws H from fun k x hx => hP k x (at0 k x hx).1).kept (fun k x hx => hk x.1 (nA k x hx).1 (nA k x hx).2)).app hP1
    have hD2 : va_D A (ws ++ u.1) := va_D.app ⟨fun i j a b ha hb e => hD.1 i j a b (at0 i a ha).1 (at0 j b hb).1 e, fun k x hx => hD.2 k x (at0 k x hx).1⟩ (hD1.weaken (fun k x _ h => hFc x.1 h)) (fun i j a b ha hb e => by
      have h1 := hD1.2 j b hb
      rw [← e] at h1
      exact (nA i a ha).2 h1)
    exact kk u.1 u.2 hp H1 locs1 ls hP2 hD2 hS1 (hK.app (va_K.moved hvm.symm hK1)) hL
  rcases hl with h | ⟨host, h⟩
  · exact va_callv (va_runI (As := As) (rest := rest) (Ts := lw_g) ⟨hx, hb, hml, hown, hts⟩ hm ⟨⟨rfl, rfl, hro1, hro2, hpay, List.mem_cons_self, hcode, hini, hY3, hpar, hts _ h⟩, hyn, hts _ hi⟩ ⟨Pk_blind, hpre⟩ rfl hn (by rw [← hml]; exact hL.1) rfl hcat2 hd hnc1) hS (fun a _ h => hFc a h) hFc hfin
  · exact va_callv (va_runIN (As := As) (rest := rest) (Ts := lw_g) ⟨hx, hb, hml, hown, hts⟩ hm ⟨⟨⟨rfl, rfl, hro1, hro2, hpay, List.mem_cons_self⟩, hcode, hini, hY3, hpar, (hN.1 _ h).use rfl⟩, hyn, hts _ hi⟩ ⟨Pk_blind, hpre⟩ rfl hn (by rw [← hml]; exact hL.1) rfl hcat2 hd hnc1) hS (fun a _ h => hFc a h) hFc hfin
end RY2
