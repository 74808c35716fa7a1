/-! THE JUDGEMENT WW: the machine at a frame of a method, over the typed store; a row an instruction -/
def isNst : Cond → Bool
  | .fieldLinkNest .. => true
  | .methodLinkNest .. => true
  | _ => false
def lw_g : List Cond := lw_tbl.filter goodWord
def lw_n : List Cond := lw_tbl.filter isNst
theorem in_g {w : Cond} (h : w ∈ lw_tbl) (hg : goodWord w = true) : w ∈ lw_g := List.mem_filter.mpr ⟨h, hg⟩
theorem in_n {w : Cond} (h : w ∈ lw_tbl) (hg : isNst w = true) : w ∈ lw_n := List.mem_filter.mpr ⟨h, hg⟩
def NWs (U : State) : Prop := ∀ w ∈ lw_n, va_Nw w U
theorem NWs.warm {s U : State} (hW : s.WarmedH U.vm) (h : NWs s) : NWs U := by
  intro w hw
  have hn := (List.mem_filter.mp hw).2
  have h1 := h w hw
  cases w <;> first | exact va_Nw.warmF hW h1 | exact va_Nw.warmM hW h1 | cases hn
theorem NWs.same {u U : State} (hv : u.vm = U.vm) (h : NWs u) : NWs U := by
  intro w hw
  have hn := (List.mem_filter.mp hw).2
  have h1 := h w hw
  cases w <;> first | exact va_Nw.same rfl hv h1 | cases hn
def tyk (q : Kd) : FieldType := match q with
  | (1, _, _) => .int
  | (2, _, _) => .long
  | (3, _, _) => .boolean
  | (_, 8, _) => .object "OutageScreen$Grid"
  | _ => .array .long
def KA (cA : Nat → ClassId) (U : State) : Prop := ∀ j, j < nW → (kd j).1 ≠ 0 → ArrOfT U (cA j) (tyk (kd j)) ∧ va_RA U (cA j) (tyk (kd j))
theorem KA.moved {cA : Nat → ClassId} {u U : State} (hvm : u.vm.Alike U.vm) (h : KA cA u) : KA cA U := fun j h1 h2 => ⟨arrOfT_moved hvm (h j h1 h2).1, (h j h1 h2).2.moved hvm⟩
/-- the eight words of the commands: their cells are ids 200 to 207, their bytes 210 to 217; 220 is what checks an index -/
def lenS : List Nat := [3, 4, 4, 5, 5, 8, 4, 5]
def bytS : List (List Int32) := [[98, 117, 115], [108, 105, 110, 101], [111, 112, 101, 110], [99, 108, 111, 115, 101], [108, 105, 109, 105, 116], [115, 116, 114, 101, 110, 103, 116, 104], [100, 114, 111, 112], [98, 101, 103, 105, 110]]
def txtS : List (Nat × String) := [(83, "bus"), (85, "line"), (87, "open"), (89, "close"), (91, "limit"), (93, "strength"), (95, "drop"), (97, "begin")]
def Str (ad : Nat → Nat) (A : Nat → Prop) (U : State) (H : Heap) : Prop := (vk_S 8 lenS bytS (fun i => ad (200 + i)) (fun i => ad (210 + i)) A U H ∧ va_Z "java/lang/String" "COMPACT_STRINGS" "Z" (.int 1) A U H ∧ (va_Z "jdk/internal/util/Preconditions" "SIOOBE_FORMATTER" "Ljava/util/function/BiFunction;" .null A U H ∨ va_Z "jdk/internal/util/Preconditions" "SIOOBE_FORMATTER" "Ljava/util/function/BiFunction;" (.ref (ad 220)) A U H)) ∧ ∀ i : Nat, i < 8 → vk_R RX3 (txtS.getD i (0, "")).1 (txtS.getD i (0, "")).2 (ad (200 + i)) U
def Inj (ad : Nat → Nat) : Prop := ∀ i j, i < nW → j < nW → ad i = ad j → i = j
def Aw (ad : Nat → Nat) (sz : Nat) : Nat → Prop := fun q => (∃ i, i < nW ∧ q = ad i) ∨ sz ≤ q
def LR (ad : Nat → Nat) (ls : Array Slot) (nL : Nat) (L : List (Option Value)) : Prop := ls.size = nL ∧ lv_wf ls ∧ ∀ (i : Nat) (v : Value), L[i]? = some (some v) → ls[i]? = some (.val (cvv ad v))
abbrev Cxt : Type := Program × Launch × Env × Room × State × MethodId × Array Value × List Frame × Method × Code × va_G × (Nat → Nat) × (Nat → ClassId) × (State → Prop) × Nat × Nat
def WW (Γ : Cxt) (pc : Nat) (L : List (Option Value)) (st : List Value) (σ : St) : Prop :=
  match Γ with
  | (p, l, e, R, s, m, args, below, meth, c, D, ad, cA, Q, nc, ns) => ∀ (H : Heap) (locs : List Loc) (ls : Array Slot), va_P D cl7 (wS ad cA σ) H → va_S (Aw ad s.heap.size) s.heap H locs → LR ad ls c.maxLocals L → W p l e R s m args below meth c H locs nc ns Q (F0 m pc ls (st.map (cvv ad)))
/-- what a walk rests on: the machine, the code, the words, the classes; fr, lo: the room -/
def OK (Γ : Cxt) (own : String) (cc : ByteArray) (nL : Nat) (rt : Option FieldType) (fr lo : Nat) : Prop :=
  match Γ with
  | (p, l, e, R, s, m, args, below, meth, c, D, ad, cA, Q, nc, ns) => p.tables.exec = Jvm.exec ∧ c.code = cc ∧ meth.sig.returnType = rt ∧ c.maxLocals = nL ∧ s.vm.findClass own = some m.cls ∧ (∀ w ∈ lw_g, w.before args s = true) ∧ NWs s ∧ va_K D cl7 [] s ∧ KA cA s ∧ Inj ad ∧ meth.locks = false ∧ Str ad (Aw ad s.heap.size) s s.heap ∧ (fr ≤ R.frames ∧ lo ≤ R.locals ∧ nc ≤ R.cells ∧ ns ≤ R.slots)
theorem wS_D {ad : Nat → Nat} {cA : Nat → ClassId} {σ : St} {sz : Nat} (h : Inj ad) : va_D (Aw ad sz) (wS ad cA σ) := by
  refine ⟨fun i j p q hp hq e => ?_, fun k q hq => ?_⟩
  · obtain ⟨h1, rfl⟩ := wS_out hp
    obtain ⟨h2, rfl⟩ := wS_out hq
    exact h i j h1 h2 e
  · obtain ⟨h1, rfl⟩ := wS_out hq
    exact Or.inl ⟨k, h1, rfl⟩
def lvO (ad : Nat → Nat) : Nat → List (Option Value) → List (Nat × Value)
  | _, [] => []
  | k, none :: t => lvO ad (k + 1) t
  | k, some v :: t => (k, cvv ad v) :: lvO ad (k + 1) t
theorem lvO_mem {ad : Nat → Nat} : ∀ {L : List (Option Value)} {k i : Nat} {v : Value}, L[i]? = some (some v) → (k + i, cvv ad v) ∈ lvO ad k L
  | [], _, _, _, h => by cases h
  | x :: t, k, 0, v, h => by
    cases h
    exact List.mem_cons_self
  | x :: t, k, i + 1, v, h => by
    have h2 : (k + 1 + i, cvv ad v) ∈ lvO ad (k + 1) t := lvO_mem (by simpa using h)
    rw [show k + (i + 1) = k + 1 + i by omega]
    match x with
    | none => exact h2
    | some y => exact List.mem_cons_of_mem _ h2
theorem lvO_of {ad : Nat → Nat} : ∀ {L : List (Option Value)} {k : Nat} {q : Nat × Value}, q ∈ lvO ad k L → ∃ (i : Nat) (v : Value), L[i]? = some (some v) ∧ q = (k + i, cvv ad v)
  | [], _, _, h => by cases h
  | none :: t, k, q, h => by
    obtain ⟨i, v, h1, h2⟩ := lvO_of (L := t) (k := k + 1) h
    exact ⟨i + 1, v, by simpa using h1, by rw [h2, show k + 1 + i = k + (i + 1) by omega]⟩
  | some y :: t, k, q, h => by
    rcases List.mem_cons.mp h with h | h
    · exact ⟨0, y, rfl, h⟩
    · obtain ⟨i, v, h1, h2⟩ := lvO_of (L := t) (k := k + 1) h
      exact ⟨i + 1, v, by simpa using h1, by rw [h2, show k + 1 + i = k + (i + 1) by omega]⟩
theorem LR.has {ad : Nat → Nat} {ls : Array Slot} {nL : Nat} {L : List (Option Value)} (h : LR ad ls nL L) : lv_has ls nL (lvO ad 0 L) := by
  refine ⟨h.1, h.2.1, fun q hq => ?_⟩
  obtain ⟨i, v, h1, rfl⟩ := lvO_of hq
  rw [Nat.zero_add]
  exact h.2.2 i v h1
/-- no long value lies just below the place i -/
def oks (L : List (Option Value)) (i : Nat) : Bool := match i with
  | 0 => true
  | j + 1 => match L[j]? with
    | some (some v) => !(v.category == 2)
    | _ => true
theorem LR.st1 {ad : Nat → Nat} {ls' : Array Slot} {nL i : Nat} {L : List (Option Value)} {v : Value} (ho : oks L i = true) (h : lv_has ls' nL ((i, cvv ad v) :: (lvO ad 0 L).filter (fun q => !(q.1 == i) && !(q.1 + 1 == i && q.2.category == 2)))) : LR ad ls' nL (L.set i (some v)) := by
  refine ⟨h.1, h.2.1, fun j x hj => ?_⟩
  rw [List.getElem?_set] at hj
  by_cases e : i = j
  · subst e
    rw [if_pos rfl] at hj
    split at hj
    · cases hj
      exact h.2.2 _ List.mem_cons_self
    · cases hj
  · rw [if_neg e] at hj
    refine h.2.2 (j, cvv ad x) (List.mem_cons_of_mem _ (List.mem_filter.mpr ⟨?_, ?_⟩))
    · have := lvO_mem (ad := ad) (k := 0) hj
      rwa [Nat.zero_add] at this
    · simp only [Bool.and_eq_true, Bool.not_eq_true', beq_eq_false_iff_ne, ne_eq, Bool.and_eq_false_iff]
      refine ⟨fun q => e q.symm, ?_⟩
      by_cases e2 : j + 1 = i
      · right
        subst e2
        simp only [oks, hj, Bool.not_eq_true', beq_eq_false_iff_ne, ne_eq] at ho
        rw [cvv_cat]
        exact ho
      · left
        exact e2
theorem LR.st2 {ad : Nat → Nat} {ls' : Array Slot} {nL i : Nat} {L : List (Option Value)} {v : Value} (ho : oks L i = true) (h : lv_has ls' nL ((i, cvv ad v) :: (lvO ad 0 L).filter (fun q => !(q.1 == i) && (!(q.1 == i + 1) && !(q.1 + 1 == i && q.2.category == 2))))) : LR ad ls' nL ((L.set i (some v)).set (i + 1) none) := by
  refine ⟨h.1, h.2.1, fun j x hj => ?_⟩
  rw [List.getElem?_set] at hj
  by_cases e1 : i + 1 = j
  · subst e1
    rw [if_pos rfl] at hj
    split at hj
    · cases hj
    · cases hj
  rw [if_neg e1, List.getElem?_set] at hj
  by_cases e : i = j
  · subst e
    rw [if_pos rfl] at hj
    split at hj
    · cases hj
      exact h.2.2 _ List.mem_cons_self
    · cases hj
  · rw [if_neg e] at hj
    refine h.2.2 (j, cvv ad x) (List.mem_cons_of_mem _ (List.mem_filter.mpr ⟨?_, ?_⟩))
    · have := lvO_mem (ad := ad) (k := 0) hj
      rwa [Nat.zero_add] at this
    · simp only [Bool.and_eq_true, Bool.not_eq_true', beq_eq_false_iff_ne, ne_eq, Bool.and_eq_false_iff]
      refine ⟨fun q => e q.symm, fun q => e1 q.symm, ?_⟩
      by_cases e2 : j + 1 = i
      · right
        subst e2
        simp only [oks, hj, Bool.not_eq_true', beq_eq_false_iff_ne, ne_eq] at ho
        rw [cvv_cat]
        exact ho
      · left
        exact e2
theorem LR.le {ad : Nat → Nat} {ls : Array Slot} {nL : Nat} {L L' : List (Option Value)} (h : LR ad ls nL L) (hs : ∀ (i : Nat) (v : Value), L'[i]? = some (some v) → L[i]? = some (some v)) : LR ad ls nL L' := ⟨h.1, h.2.1, fun i v q => h.2.2 i v (hs i v q)⟩

section RW
variable {Γ : Cxt} {own : String} {cc : ByteArray} {nL fr lo pc : Nat} {rt : Option FieldType} {L : List (Option Value)} {st : List Value} {σ : St}
theorem s_iconst (G : OK Γ own cc nL rt fr lo) {n : Int} {v : Int32} (hd : decode cc pc = .ok (.iconst n, 1)) (hv : Int32.ofInt n = v) (k : WW Γ (pc + 1) L (.int v :: st) σ) : WW Γ pc L st σ := by
  obtain ⟨p, l, e, R, s, m, args, below, meth, c, D, ad, cA, Q, nc, ns⟩ := Γ
  obtain ⟨hx, hb, hr, hml, hown, hts, hN, hK, hKA, hI, hlk, hStr, hR⟩ := G
  intro H locs ls hP hS hL
  exact lv_iconst hx hb hd hv (k H locs ls hP hS hL)
theorem s_bipush (G : OK Γ own cc nL rt fr lo) {n : Int} {v : Int32} (hd : decode cc pc = .ok (.bipush n, 2)) (hv : (Int8.ofInt n).toInt32 = v) (k : WW Γ (pc + 2) L (.int v :: st) σ) : WW Γ pc L st σ := by
  obtain ⟨p, l, e, R, s, m, args, below, meth, c, D, ad, cA, Q, nc, ns⟩ := Γ
  obtain ⟨hx, hb, hr, hml, hown, hts, hN, hK, hKA, hI, hlk, hStr, hR⟩ := G
  intro H locs ls hP hS hL
  exact lv_bipush hx hb hd hv (k H locs ls hP hS hL)
theorem s_sipush (G : OK Γ own cc nL rt fr lo) {n : Int} {v : Int32} (hd : decode cc pc = .ok (.sipush n, 3)) (hv : (Int16.ofInt n).toInt32 = v) (k : WW Γ (pc + 3) L (.int v :: st) σ) : WW Γ pc L st σ := by
  obtain ⟨p, l, e, R, s, m, args, below, meth, c, D, ad, cA, Q, nc, ns⟩ := Γ
  obtain ⟨hx, hb, hr, hml, hown, hts, hN, hK, hKA, hI, hlk, hStr, hR⟩ := G
  intro H locs ls hP hS hL
  exact lv_sipush hx hb hd hv (k H locs ls hP hS hL)
theorem s_lconst (G : OK Γ own cc nL rt fr lo) {n : Fin 2} {v : Int64} (hd : decode cc pc = .ok (.lconst n, 1)) (hv : Int64.ofNat (n : Nat) = v) (k : WW Γ (pc + 1) L (.long v :: st) σ) : WW Γ pc L st σ := by
  obtain ⟨p, l, e, R, s, m, args, below, meth, c, D, ad, cA, Q, nc, ns⟩ := Γ
  obtain ⟨hx, hb, hr, hml, hown, hts, hN, hK, hKA, hI, hlk, hStr, hR⟩ := G
  intro H locs ls hP hS hL
  exact lv_lconst hx hb hd hv (k H locs ls hP hS hL)
theorem s_ldc (G : OK Γ own cc nL rt fr lo) {idx : Nat} {v : Int32} (hd : decode cc pc = .ok (.ldc idx, 2)) (hc : Cond.constant own idx v ∈ lw_g) (k : WW Γ (pc + 2) L (.int v :: st) σ) : WW Γ pc L st σ := by
  obtain ⟨p, l, e, R, s, m, args, below, meth, c, D, ad, cA, Q, nc, ns⟩ := Γ
  obtain ⟨hx, hb, hr, hml, hown, hts, hN, hK, hKA, hI, hlk, hStr, hR⟩ := G
  intro H locs ls hP hS hL
  exact lv_ldc hx hb hown (hts _ hc) hd (k H locs ls hP hS hL)
theorem s_ldc2 (G : OK Γ own cc nL rt fr lo) {idx : Nat} {v : Int64} (hd : decode cc pc = .ok (.ldc2_w idx, 3)) (hc : Cond.constantLong own idx v ∈ lw_g) (k : WW Γ (pc + 3) L (.long v :: st) σ) : WW Γ pc L st σ := by
  obtain ⟨p, l, e, R, s, m, args, below, meth, c, D, ad, cA, Q, nc, ns⟩ := Γ
  obtain ⟨hx, hb, hr, hml, hown, hts, hN, hK, hKA, hI, hlk, hStr, hR⟩ := G
  intro H locs ls hP hS hL
  exact lv_ldc2 hx hb hown (hts _ hc) hd (k H locs ls hP hS hL)
theorem s_ldcS {idx i : Nat} {tx : String} (G : OK Γ RX3 cc nL rt fr lo) (hd : decode cc pc = .ok (.ldc idx, 2)) (hi : i < 8) (ht : txtS.getD i (0, "") = (idx, tx)) (k : WW Γ (pc + 2) L (.ref (200 + i) :: st) σ) : WW Γ pc L st σ := by
  obtain ⟨p, l, e, R, s, m, args, below, meth, c, D, ad, cA, Q, nc, ns⟩ := Γ
  obtain ⟨hx, hb, hr, hml, hown, hts, hN, hK, hKA, hI, hlk, hStr, hR⟩ := G
  intro H locs ls hP hS hL
  have h1 := hStr.2 i hi
  rw [ht] at h1
  exact va_ldcS hx hb hown h1 hd (k H locs ls hP hS hL)
theorem s_iload_n (G : OK Γ own cc nL rt fr lo) {j : Fin 4} {x : Int32} (hd : decode cc pc = .ok (.iload_n j, 1)) (hv : L[(j : Nat)]? = some (some (.int x))) (k : WW Γ (pc + 1) L (.int x :: st) σ) : WW Γ pc L st σ := by
  obtain ⟨p, l, e, R, s, m, args, below, meth, c, D, ad, cA, Q, nc, ns⟩ := Γ
  obtain ⟨hx, hb, hr, hml, hown, hts, hN, hK, hKA, hI, hlk, hStr, hR⟩ := G
  intro H locs ls hP hS hL
  exact lv_iload_n hx hb hd rfl (hL.2.2 _ _ hv) (k H locs ls hP hS hL)
theorem s_iload (G : OK Γ own cc nL rt fr lo) {j : Nat} {x : Int32} (hd : decode cc pc = .ok (.iload j, 2)) (hv : L[j]? = some (some (.int x))) (k : WW Γ (pc + 2) L (.int x :: st) σ) : WW Γ pc L st σ := by
  obtain ⟨p, l, e, R, s, m, args, below, meth, c, D, ad, cA, Q, nc, ns⟩ := Γ
  obtain ⟨hx, hb, hr, hml, hown, hts, hN, hK, hKA, hI, hlk, hStr, hR⟩ := G
  intro H locs ls hP hS hL
  exact lv_iload hx hb hd (hL.2.2 _ _ hv) (k H locs ls hP hS hL)
theorem s_lload_n (G : OK Γ own cc nL rt fr lo) {j : Fin 4} {x : Int64} (hd : decode cc pc = .ok (.lload_n j, 1)) (hv : L[(j : Nat)]? = some (some (.long x))) (k : WW Γ (pc + 1) L (.long x :: st) σ) : WW Γ pc L st σ := by
  obtain ⟨p, l, e, R, s, m, args, below, meth, c, D, ad, cA, Q, nc, ns⟩ := Γ
  obtain ⟨hx, hb, hr, hml, hown, hts, hN, hK, hKA, hI, hlk, hStr, hR⟩ := G
  intro H locs ls hP hS hL
  exact lv_lload_n hx hb hd rfl (hL.2.2 _ _ hv) (k H locs ls hP hS hL)
theorem s_lload (G : OK Γ own cc nL rt fr lo) {j : Nat} {x : Int64} (hd : decode cc pc = .ok (.lload j, 2)) (hv : L[j]? = some (some (.long x))) (k : WW Γ (pc + 2) L (.long x :: st) σ) : WW Γ pc L st σ := by
  obtain ⟨p, l, e, R, s, m, args, below, meth, c, D, ad, cA, Q, nc, ns⟩ := Γ
  obtain ⟨hx, hb, hr, hml, hown, hts, hN, hK, hKA, hI, hlk, hStr, hR⟩ := G
  intro H locs ls hP hS hL
  exact lv_lload hx hb hd (hL.2.2 _ _ hv) (k H locs ls hP hS hL)
theorem s_aload_n (G : OK Γ own cc nL rt fr lo) {j : Fin 4} {x : Nat} (hd : decode cc pc = .ok (.aload_n j, 1)) (hv : L[(j : Nat)]? = some (some (.ref x))) (k : WW Γ (pc + 1) L (.ref x :: st) σ) : WW Γ pc L st σ := by
  obtain ⟨p, l, e, R, s, m, args, below, meth, c, D, ad, cA, Q, nc, ns⟩ := Γ
  obtain ⟨hx, hb, hr, hml, hown, hts, hN, hK, hKA, hI, hlk, hStr, hR⟩ := G
  intro H locs ls hP hS hL
  exact lv_aload_n hx hb hd rfl (hL.2.2 _ _ hv) (k H locs ls hP hS hL)
theorem s_aload (G : OK Γ own cc nL rt fr lo) {j : Nat} {x : Nat} (hd : decode cc pc = .ok (.aload j, 2)) (hv : L[j]? = some (some (.ref x))) (k : WW Γ (pc + 2) L (.ref x :: st) σ) : WW Γ pc L st σ := by
  obtain ⟨p, l, e, R, s, m, args, below, meth, c, D, ad, cA, Q, nc, ns⟩ := Γ
  obtain ⟨hx, hb, hr, hml, hown, hts, hN, hK, hKA, hI, hlk, hStr, hR⟩ := G
  intro H locs ls hP hS hL
  exact lv_aload hx hb hd (hL.2.2 _ _ hv) (k H locs ls hP hS hL)
theorem s_istore_n {j : Nat} {i : Fin 4} {x : Int32} {L' : List (Option Value)} (G : OK Γ own cc nL rt fr lo) (hd : decode cc pc = .ok (.istore_n i, 1)) (hi : (i : Nat) = j) (hn : j < nL) (ho : oks L j = true) (hL' : (L.set j (some (.int x))) = L') (k : WW Γ (pc + 1) L' st σ) : WW Γ pc L (.int x :: st) σ := by
  obtain ⟨p, l, e, R, s, m, args, below, meth, c, D, ad, cA, Q, nc, ns⟩ := Γ
  obtain ⟨hx, hb, hr, hml, hown, hts, hN, hK, hKA, hI, hlk, hStr, hR⟩ := G
  intro H locs ls hP hS hL
  subst hL'
  have hh := hL.has
  rw [hml] at hh
  exact lv_istore_n hx hb hd hi hh hn rfl (fun ls' h' => k H locs ls' hP hS (by rw [hml]; exact LR.st1 (v := .int x) ho h'))
theorem s_istore {j : Nat} {x : Int32} {L' : List (Option Value)} (G : OK Γ own cc nL rt fr lo) (hd : decode cc pc = .ok (.istore j, 2)) (hn : j < nL) (ho : oks L j = true) (hL' : (L.set j (some (.int x))) = L') (k : WW Γ (pc + 2) L' st σ) : WW Γ pc L (.int x :: st) σ := by
  obtain ⟨p, l, e, R, s, m, args, below, meth, c, D, ad, cA, Q, nc, ns⟩ := Γ
  obtain ⟨hx, hb, hr, hml, hown, hts, hN, hK, hKA, hI, hlk, hStr, hR⟩ := G
  intro H locs ls hP hS hL
  subst hL'
  have hh := hL.has
  rw [hml] at hh
  exact lv_istore hx hb hd hh hn rfl (fun ls' h' => k H locs ls' hP hS (by rw [hml]; exact LR.st1 (v := .int x) ho h'))
theorem s_astore_n {j : Nat} {i : Fin 4} {x : Nat} {L' : List (Option Value)} (G : OK Γ own cc nL rt fr lo) (hd : decode cc pc = .ok (.astore_n i, 1)) (hi : (i : Nat) = j) (hn : j < nL) (ho : oks L j = true) (hL' : (L.set j (some (.ref x))) = L') (k : WW Γ (pc + 1) L' st σ) : WW Γ pc L (.ref x :: st) σ := by
  obtain ⟨p, l, e, R, s, m, args, below, meth, c, D, ad, cA, Q, nc, ns⟩ := Γ
  obtain ⟨hx, hb, hr, hml, hown, hts, hN, hK, hKA, hI, hlk, hStr, hR⟩ := G
  intro H locs ls hP hS hL
  subst hL'
  have hh := hL.has
  rw [hml] at hh
  exact lv_astore_n hx hb hd hi hh hn rfl (fun ls' h' => k H locs ls' hP hS (by rw [hml]; exact LR.st1 (v := .ref x) ho h'))
theorem s_astore {j : Nat} {x : Nat} {L' : List (Option Value)} (G : OK Γ own cc nL rt fr lo) (hd : decode cc pc = .ok (.astore j, 2)) (hn : j < nL) (ho : oks L j = true) (hL' : (L.set j (some (.ref x))) = L') (k : WW Γ (pc + 2) L' st σ) : WW Γ pc L (.ref x :: st) σ := by
  obtain ⟨p, l, e, R, s, m, args, below, meth, c, D, ad, cA, Q, nc, ns⟩ := Γ
  obtain ⟨hx, hb, hr, hml, hown, hts, hN, hK, hKA, hI, hlk, hStr, hR⟩ := G
  intro H locs ls hP hS hL
  subst hL'
  have hh := hL.has
  rw [hml] at hh
  exact lv_astore hx hb hd hh hn rfl (fun ls' h' => k H locs ls' hP hS (by rw [hml]; exact LR.st1 (v := .ref x) ho h'))
theorem s_lstore_n {j : Nat} {i : Fin 4} {x : Int64} {L' : List (Option Value)} (G : OK Γ own cc nL rt fr lo) (hd : decode cc pc = .ok (.lstore_n i, 1)) (hi : (i : Nat) = j) (hn : j + 1 < nL) (ho : oks L j = true) (hL' : ((L.set j (some (.long x))).set (j + 1) none) = L') (k : WW Γ (pc + 1) L' st σ) : WW Γ pc L (.long x :: st) σ := by
  obtain ⟨p, l, e, R, s, m, args, below, meth, c, D, ad, cA, Q, nc, ns⟩ := Γ
  obtain ⟨hx, hb, hr, hml, hown, hts, hN, hK, hKA, hI, hlk, hStr, hR⟩ := G
  intro H locs ls hP hS hL
  subst hL'
  have hh := hL.has
  rw [hml] at hh
  exact lv_lstore_n hx hb hd hi hh hn rfl (fun ls' h' => k H locs ls' hP hS (by rw [hml]; exact LR.st2 (v := .long x) ho h'))
theorem s_lstore {j : Nat} {x : Int64} {L' : List (Option Value)} (G : OK Γ own cc nL rt fr lo) (hd : decode cc pc = .ok (.lstore j, 2)) (hn : j + 1 < nL) (ho : oks L j = true) (hL' : ((L.set j (some (.long x))).set (j + 1) none) = L') (k : WW Γ (pc + 2) L' st σ) : WW Γ pc L (.long x :: st) σ := by
  obtain ⟨p, l, e, R, s, m, args, below, meth, c, D, ad, cA, Q, nc, ns⟩ := Γ
  obtain ⟨hx, hb, hr, hml, hown, hts, hN, hK, hKA, hI, hlk, hStr, hR⟩ := G
  intro H locs ls hP hS hL
  subst hL'
  have hh := hL.has
  rw [hml] at hh
  exact lv_lstore hx hb hd hh hn rfl (fun ls' h' => k H locs ls' hP hS (by rw [hml]; exact LR.st2 (v := .long x) ho h'))
theorem s_iinc {j : Nat} {n : Int} {x v : Int32} {L' : List (Option Value)} (G : OK Γ own cc nL rt fr lo) (hd : decode cc pc = .ok (.iinc j n, 3)) (hv : L[j]? = some (some (.int x))) (hx' : x + Int32.ofInt n = v) (hn : j < nL) (ho : oks L j = true) (hL' : L.set j (some (.int v)) = L') (k : WW Γ (pc + 3) L' st σ) : WW Γ pc L st σ := by
  obtain ⟨p, l, e, R, s, m, args, below, meth, c, D, ad, cA, Q, nc, ns⟩ := Γ
  obtain ⟨hx, hb, hr, hml, hown, hts, hN, hK, hKA, hI, hlk, hStr, hR⟩ := G
  intro H locs ls hP hS hL
  subst hL'
  have hh := hL.has
  rw [hml] at hh
  obtain ⟨q, hq⟩ := List.getElem?_of_mem (lvO_mem (ad := ad) (k := 0) hv)
  rw [Nat.zero_add] at hq
  exact lv_iinc hx hb hd hh hq hx' hn rfl (fun ls' h' => k H locs ls' hP hS (by rw [hml]; exact LR.st1 (v := .int v) ho h'))
/-- forget what lies in some locals -/
theorem s_forget {L' : List (Option Value)} (hs : ∀ (i : Nat) (v : Value), L'[i]? = some (some v) → L[i]? = some (some v)) (k : WW Γ pc L' st σ) : WW Γ pc L st σ := by
  obtain ⟨p, l, e, R, s, m, args, below, meth, c, D, ad, cA, Q, nc, ns⟩ := Γ
  intro H locs ls hP hS hL
  exact k H locs ls hP hS (hL.le hs)
def fgt : List (Option Value) → List Bool → List (Option Value)
  | x :: t, true :: u => x :: fgt t u
  | _ :: t, false :: u => none :: fgt t u
  | l, [] => l
  | [], _ => []
theorem fgt_ok : ∀ (L : List (Option Value)) (u : List Bool) (i : Nat) (v : Value), (fgt L u)[i]? = some (some v) → L[i]? = some (some v)
  | [], [], _, _, h => h
  | [], _ :: _, _, _, h => by simp [fgt] at h
  | x :: t, [], _, _, h => h
  | x :: t, true :: u, 0, v, h => h
  | x :: t, true :: u, i + 1, v, h => by simpa using fgt_ok t u i v (by simpa [fgt] using h)
  | x :: t, false :: u, 0, v, h => by simp [fgt] at h
  | x :: t, false :: u, i + 1, v, h => by simpa using fgt_ok t u i v (by simpa [fgt] using h)
theorem s_fgt {L' : List (Option Value)} (u : List Bool) (hL : fgt L u = L') (k : WW Γ pc L' st σ) : WW Γ pc L st σ := s_forget (fun i v h => fgt_ok L u i v (by rw [hL]; exact h)) k
theorem s_iadd (G : OK Γ own cc nL rt fr lo) {x y : Int32} (hd : decode cc pc = .ok (.iadd, 1)) (k : WW Γ (pc + 1) L (.int (x + y) :: st) σ) : WW Γ pc L (.int y :: .int x :: st) σ := by
  obtain ⟨p, l, e, R, s, m, args, below, meth, c, D, ad, cA, Q, nc, ns⟩ := Γ
  obtain ⟨hx, hb, hr, hml, hown, hts, hN, hK, hKA, hI, hlk, hStr, hR⟩ := G
  intro H locs ls hP hS hL
  exact lv_iadd hx hb hd (k H locs ls hP hS hL)
theorem s_isub (G : OK Γ own cc nL rt fr lo) {x y : Int32} (hd : decode cc pc = .ok (.isub, 1)) (k : WW Γ (pc + 1) L (.int (x - y) :: st) σ) : WW Γ pc L (.int y :: .int x :: st) σ := by
  obtain ⟨p, l, e, R, s, m, args, below, meth, c, D, ad, cA, Q, nc, ns⟩ := Γ
  obtain ⟨hx, hb, hr, hml, hown, hts, hN, hK, hKA, hI, hlk, hStr, hR⟩ := G
  intro H locs ls hP hS hL
  exact lv_isub hx hb hd (k H locs ls hP hS hL)
theorem s_imul (G : OK Γ own cc nL rt fr lo) {x y : Int32} (hd : decode cc pc = .ok (.imul, 1)) (k : WW Γ (pc + 1) L (.int (x * y) :: st) σ) : WW Γ pc L (.int y :: .int x :: st) σ := by
  obtain ⟨p, l, e, R, s, m, args, below, meth, c, D, ad, cA, Q, nc, ns⟩ := Γ
  obtain ⟨hx, hb, hr, hml, hown, hts, hN, hK, hKA, hI, hlk, hStr, hR⟩ := G
  intro H locs ls hP hS hL
  exact lv_imul hx hb hd (k H locs ls hP hS hL)
theorem s_iand (G : OK Γ own cc nL rt fr lo) {x y : Int32} (hd : decode cc pc = .ok (.iand, 1)) (k : WW Γ (pc + 1) L (.int (x &&& y) :: st) σ) : WW Γ pc L (.int y :: .int x :: st) σ := by
  obtain ⟨p, l, e, R, s, m, args, below, meth, c, D, ad, cA, Q, nc, ns⟩ := Γ
  obtain ⟨hx, hb, hr, hml, hown, hts, hN, hK, hKA, hI, hlk, hStr, hR⟩ := G
  intro H locs ls hP hS hL
  exact lv_iand hx hb hd (k H locs ls hP hS hL)
theorem s_ior (G : OK Γ own cc nL rt fr lo) {x y : Int32} (hd : decode cc pc = .ok (.ior, 1)) (k : WW Γ (pc + 1) L (.int (x ||| y) :: st) σ) : WW Γ pc L (.int y :: .int x :: st) σ := by
  obtain ⟨p, l, e, R, s, m, args, below, meth, c, D, ad, cA, Q, nc, ns⟩ := Γ
  obtain ⟨hx, hb, hr, hml, hown, hts, hN, hK, hKA, hI, hlk, hStr, hR⟩ := G
  intro H locs ls hP hS hL
  exact lv_ior hx hb hd (k H locs ls hP hS hL)
theorem s_ixor (G : OK Γ own cc nL rt fr lo) {x y : Int32} (hd : decode cc pc = .ok (.ixor, 1)) (k : WW Γ (pc + 1) L (.int (x ^^^ y) :: st) σ) : WW Γ pc L (.int y :: .int x :: st) σ := by
  obtain ⟨p, l, e, R, s, m, args, below, meth, c, D, ad, cA, Q, nc, ns⟩ := Γ
  obtain ⟨hx, hb, hr, hml, hown, hts, hN, hK, hKA, hI, hlk, hStr, hR⟩ := G
  intro H locs ls hP hS hL
  exact lv_ixor hx hb hd (k H locs ls hP hS hL)
theorem s_ishl (G : OK Γ own cc nL rt fr lo) {x y : Int32} (hd : decode cc pc = .ok (.ishl, 1)) (k : WW Γ (pc + 1) L (.int (x <<< (y &&& 31)) :: st) σ) : WW Γ pc L (.int y :: .int x :: st) σ := by
  obtain ⟨p, l, e, R, s, m, args, below, meth, c, D, ad, cA, Q, nc, ns⟩ := Γ
  obtain ⟨hx, hb, hr, hml, hown, hts, hN, hK, hKA, hI, hlk, hStr, hR⟩ := G
  intro H locs ls hP hS hL
  exact lv_ishl hx hb hd (k H locs ls hP hS hL)
theorem s_ishr (G : OK Γ own cc nL rt fr lo) {x y : Int32} (hd : decode cc pc = .ok (.ishr, 1)) (k : WW Γ (pc + 1) L (.int (x >>> (y &&& 31)) :: st) σ) : WW Γ pc L (.int y :: .int x :: st) σ := by
  obtain ⟨p, l, e, R, s, m, args, below, meth, c, D, ad, cA, Q, nc, ns⟩ := Γ
  obtain ⟨hx, hb, hr, hml, hown, hts, hN, hK, hKA, hI, hlk, hStr, hR⟩ := G
  intro H locs ls hP hS hL
  exact lv_ishr hx hb hd (k H locs ls hP hS hL)
theorem s_ladd (G : OK Γ own cc nL rt fr lo) {x y : Int64} (hd : decode cc pc = .ok (.ladd, 1)) (k : WW Γ (pc + 1) L (.long (x + y) :: st) σ) : WW Γ pc L (.long y :: .long x :: st) σ := by
  obtain ⟨p, l, e, R, s, m, args, below, meth, c, D, ad, cA, Q, nc, ns⟩ := Γ
  obtain ⟨hx, hb, hr, hml, hown, hts, hN, hK, hKA, hI, hlk, hStr, hR⟩ := G
  intro H locs ls hP hS hL
  exact lv_ladd hx hb hd (k H locs ls hP hS hL)
theorem s_lsub (G : OK Γ own cc nL rt fr lo) {x y : Int64} (hd : decode cc pc = .ok (.lsub, 1)) (k : WW Γ (pc + 1) L (.long (x - y) :: st) σ) : WW Γ pc L (.long y :: .long x :: st) σ := by
  obtain ⟨p, l, e, R, s, m, args, below, meth, c, D, ad, cA, Q, nc, ns⟩ := Γ
  obtain ⟨hx, hb, hr, hml, hown, hts, hN, hK, hKA, hI, hlk, hStr, hR⟩ := G
  intro H locs ls hP hS hL
  exact lv_lsub hx hb hd (k H locs ls hP hS hL)
theorem s_lmul (G : OK Γ own cc nL rt fr lo) {x y : Int64} (hd : decode cc pc = .ok (.lmul, 1)) (k : WW Γ (pc + 1) L (.long (x * y) :: st) σ) : WW Γ pc L (.long y :: .long x :: st) σ := by
  obtain ⟨p, l, e, R, s, m, args, below, meth, c, D, ad, cA, Q, nc, ns⟩ := Γ
  obtain ⟨hx, hb, hr, hml, hown, hts, hN, hK, hKA, hI, hlk, hStr, hR⟩ := G
  intro H locs ls hP hS hL
  exact lv_lmul hx hb hd (k H locs ls hP hS hL)
theorem s_idiv (G : OK Γ own cc nL rt fr lo) {x y : Int32} (hd : decode cc pc = .ok (.idiv, 1)) (hne : decide (¬ y = 0) = true) (k : WW Γ (pc + 1) L (.int (x / y) :: st) σ) : WW Γ pc L (.int y :: .int x :: st) σ := by
  obtain ⟨p, l, e, R, s, m, args, below, meth, c, D, ad, cA, Q, nc, ns⟩ := Γ
  obtain ⟨hx, hb, hr, hml, hown, hts, hN, hK, hKA, hI, hlk, hStr, hR⟩ := G
  intro H locs ls hP hS hL
  exact lv_idiv hx hb hd (of_decide_eq_true hne) (k H locs ls hP hS hL)
theorem s_irem (G : OK Γ own cc nL rt fr lo) {x y : Int32} (hd : decode cc pc = .ok (.irem, 1)) (hne : decide (¬ y = 0) = true) (k : WW Γ (pc + 1) L (.int (x - x / y * y) :: st) σ) : WW Γ pc L (.int y :: .int x :: st) σ := by
  obtain ⟨p, l, e, R, s, m, args, below, meth, c, D, ad, cA, Q, nc, ns⟩ := Γ
  obtain ⟨hx, hb, hr, hml, hown, hts, hN, hK, hKA, hI, hlk, hStr, hR⟩ := G
  intro H locs ls hP hS hL
  exact lv_irem hx hb hd (of_decide_eq_true hne) (k H locs ls hP hS hL)
theorem s_ldiv (G : OK Γ own cc nL rt fr lo) {x y : Int64} (hd : decode cc pc = .ok (.ldiv, 1)) (hne : decide (¬ y = 0) = true) (k : WW Γ (pc + 1) L (.long (x / y) :: st) σ) : WW Γ pc L (.long y :: .long x :: st) σ := by
  obtain ⟨p, l, e, R, s, m, args, below, meth, c, D, ad, cA, Q, nc, ns⟩ := Γ
  obtain ⟨hx, hb, hr, hml, hown, hts, hN, hK, hKA, hI, hlk, hStr, hR⟩ := G
  intro H locs ls hP hS hL
  exact lv_ldiv hx hb hd (of_decide_eq_true hne) (k H locs ls hP hS hL)
theorem s_lrem (G : OK Γ own cc nL rt fr lo) {x y : Int64} (hd : decode cc pc = .ok (.lrem, 1)) (hne : decide (¬ y = 0) = true) (k : WW Γ (pc + 1) L (.long (x - x / y * y) :: st) σ) : WW Γ pc L (.long y :: .long x :: st) σ := by
  obtain ⟨p, l, e, R, s, m, args, below, meth, c, D, ad, cA, Q, nc, ns⟩ := Γ
  obtain ⟨hx, hb, hr, hml, hown, hts, hN, hK, hKA, hI, hlk, hStr, hR⟩ := G
  intro H locs ls hP hS hL
  exact lv_lrem hx hb hd (of_decide_eq_true hne) (k H locs ls hP hS hL)
theorem s_ineg (G : OK Γ own cc nL rt fr lo) {x : Int32} (hd : decode cc pc = .ok (.ineg, 1)) (k : WW Γ (pc + 1) L (.int (-x) :: st) σ) : WW Γ pc L (.int x :: st) σ := by
  obtain ⟨p, l, e, R, s, m, args, below, meth, c, D, ad, cA, Q, nc, ns⟩ := Γ
  obtain ⟨hx, hb, hr, hml, hown, hts, hN, hK, hKA, hI, hlk, hStr, hR⟩ := G
  intro H locs ls hP hS hL
  exact lv_ineg hx hb hd (k H locs ls hP hS hL)
theorem s_lneg (G : OK Γ own cc nL rt fr lo) {x : Int64} (hd : decode cc pc = .ok (.lneg, 1)) (k : WW Γ (pc + 1) L (.long (-x) :: st) σ) : WW Γ pc L (.long x :: st) σ := by
  obtain ⟨p, l, e, R, s, m, args, below, meth, c, D, ad, cA, Q, nc, ns⟩ := Γ
  obtain ⟨hx, hb, hr, hml, hown, hts, hN, hK, hKA, hI, hlk, hStr, hR⟩ := G
  intro H locs ls hP hS hL
  exact lv_lneg hx hb hd (k H locs ls hP hS hL)
theorem s_i2l (G : OK Γ own cc nL rt fr lo) {x : Int32} (hd : decode cc pc = .ok (.i2l, 1)) (k : WW Γ (pc + 1) L (.long x.toInt64 :: st) σ) : WW Γ pc L (.int x :: st) σ := by
  obtain ⟨p, l, e, R, s, m, args, below, meth, c, D, ad, cA, Q, nc, ns⟩ := Γ
  obtain ⟨hx, hb, hr, hml, hown, hts, hN, hK, hKA, hI, hlk, hStr, hR⟩ := G
  intro H locs ls hP hS hL
  exact lv_i2l hx hb hd rfl (k H locs ls hP hS hL)
theorem s_l2i (G : OK Γ own cc nL rt fr lo) {x : Int64} (hd : decode cc pc = .ok (.l2i, 1)) (k : WW Γ (pc + 1) L (.int x.toInt32 :: st) σ) : WW Γ pc L (.long x :: st) σ := by
  obtain ⟨p, l, e, R, s, m, args, below, meth, c, D, ad, cA, Q, nc, ns⟩ := Γ
  obtain ⟨hx, hb, hr, hml, hown, hts, hN, hK, hKA, hI, hlk, hStr, hR⟩ := G
  intro H locs ls hP hS hL
  exact lv_l2i hx hb hd rfl (k H locs ls hP hS hL)
theorem s_dup (G : OK Γ own cc nL rt fr lo) {v : Value} (hd : decode cc pc = .ok (.dup, 1)) (hc : v.category = 1) (k : WW Γ (pc + 1) L (v :: v :: st) σ) : WW Γ pc L (v :: st) σ := by
  obtain ⟨p, l, e, R, s, m, args, below, meth, c, D, ad, cA, Q, nc, ns⟩ := Γ
  obtain ⟨hx, hb, hr, hml, hown, hts, hN, hK, hKA, hI, hlk, hStr, hR⟩ := G
  intro H locs ls hP hS hL
  exact lv_dup hx hb hd (by rw [cvv_cat]; exact hc) (k H locs ls hP hS hL)
theorem s_dup2 (G : OK Γ own cc nL rt fr lo) {v u : Value} (hd : decode cc pc = .ok (.dup2, 1)) (hc : v.category = 1) (hc2 : u.category = 1) (k : WW Γ (pc + 1) L (v :: u :: v :: u :: st) σ) : WW Γ pc L (v :: u :: st) σ := by
  obtain ⟨p, l, e, R, s, m, args, below, meth, c, D, ad, cA, Q, nc, ns⟩ := Γ
  obtain ⟨hx, hb, hr, hml, hown, hts, hN, hK, hKA, hI, hlk, hStr, hR⟩ := G
  intro H locs ls hP hS hL
  exact lv_dup2_11 hx hb hd (by rw [cvv_cat]; exact hc) (by rw [cvv_cat]; exact hc2) (k H locs ls hP hS hL)
theorem s_pop (G : OK Γ own cc nL rt fr lo) {v : Value} (hd : decode cc pc = .ok (.pop, 1)) (hc : v.category = 1) (k : WW Γ (pc + 1) L st σ) : WW Γ pc L (v :: st) σ := by
  obtain ⟨p, l, e, R, s, m, args, below, meth, c, D, ad, cA, Q, nc, ns⟩ := Γ
  obtain ⟨hx, hb, hr, hml, hown, hts, hN, hK, hKA, hI, hlk, hStr, hR⟩ := G
  intro H locs ls hP hS hL
  exact lv_pop hx hb hd (by rw [cvv_cat]; exact hc) (k H locs ls hP hS hL)
theorem s_icmp_eq {off : Int} {tgt : Nat} (G : OK Γ own cc nL rt fr lo) {x y : Int32} (hd : decode cc pc = .ok (.if_icmp .eq off, 3)) (ht : (pc : Int) + off = (tgt : Int)) (kt : x = y → WW Γ tgt L st σ) (kf : ¬ (x = y) → WW Γ (pc + 3) L st σ) : WW Γ pc L (.int y :: .int x :: st) σ := by
  obtain ⟨p, l, e, R, s, m, args, below, meth, c, D, ad, cA, Q, nc, ns⟩ := Γ
  obtain ⟨hx, hb, hr, hml, hown, hts, hN, hK, hKA, hI, hlk, hStr, hR⟩ := G
  intro H locs ls hP hS hL
  exact lv_icmp_eq hx hb hd ht (fun q => kt q H locs ls hP hS hL) (fun q => kf q H locs ls hP hS hL)
theorem s_icmp_ne {off : Int} {tgt : Nat} (G : OK Γ own cc nL rt fr lo) {x y : Int32} (hd : decode cc pc = .ok (.if_icmp .ne off, 3)) (ht : (pc : Int) + off = (tgt : Int)) (kt : ¬ x = y → WW Γ tgt L st σ) (kf : x = y → WW Γ (pc + 3) L st σ) : WW Γ pc L (.int y :: .int x :: st) σ := by
  obtain ⟨p, l, e, R, s, m, args, below, meth, c, D, ad, cA, Q, nc, ns⟩ := Γ
  obtain ⟨hx, hb, hr, hml, hown, hts, hN, hK, hKA, hI, hlk, hStr, hR⟩ := G
  intro H locs ls hP hS hL
  exact lv_icmp_ne hx hb hd ht (fun q => kt q H locs ls hP hS hL) (fun q => kf q H locs ls hP hS hL)
theorem s_icmp_lt {off : Int} {tgt : Nat} (G : OK Γ own cc nL rt fr lo) {x y : Int32} (hd : decode cc pc = .ok (.if_icmp .lt off, 3)) (ht : (pc : Int) + off = (tgt : Int)) (kt : x < y → WW Γ tgt L st σ) (kf : ¬ (x < y) → WW Γ (pc + 3) L st σ) : WW Γ pc L (.int y :: .int x :: st) σ := by
  obtain ⟨p, l, e, R, s, m, args, below, meth, c, D, ad, cA, Q, nc, ns⟩ := Γ
  obtain ⟨hx, hb, hr, hml, hown, hts, hN, hK, hKA, hI, hlk, hStr, hR⟩ := G
  intro H locs ls hP hS hL
  exact lv_icmp_lt hx hb hd ht (fun q => kt q H locs ls hP hS hL) (fun q => kf q H locs ls hP hS hL)
theorem s_icmp_ge {off : Int} {tgt : Nat} (G : OK Γ own cc nL rt fr lo) {x y : Int32} (hd : decode cc pc = .ok (.if_icmp .ge off, 3)) (ht : (pc : Int) + off = (tgt : Int)) (kt : y ≤ x → WW Γ tgt L st σ) (kf : ¬ (y ≤ x) → WW Γ (pc + 3) L st σ) : WW Γ pc L (.int y :: .int x :: st) σ := by
  obtain ⟨p, l, e, R, s, m, args, below, meth, c, D, ad, cA, Q, nc, ns⟩ := Γ
  obtain ⟨hx, hb, hr, hml, hown, hts, hN, hK, hKA, hI, hlk, hStr, hR⟩ := G
  intro H locs ls hP hS hL
  exact lv_icmp_ge hx hb hd ht (fun q => kt q H locs ls hP hS hL) (fun q => kf q H locs ls hP hS hL)
theorem s_icmp_gt {off : Int} {tgt : Nat} (G : OK Γ own cc nL rt fr lo) {x y : Int32} (hd : decode cc pc = .ok (.if_icmp .gt off, 3)) (ht : (pc : Int) + off = (tgt : Int)) (kt : y < x → WW Γ tgt L st σ) (kf : ¬ (y < x) → WW Γ (pc + 3) L st σ) : WW Γ pc L (.int y :: .int x :: st) σ := by
  obtain ⟨p, l, e, R, s, m, args, below, meth, c, D, ad, cA, Q, nc, ns⟩ := Γ
  obtain ⟨hx, hb, hr, hml, hown, hts, hN, hK, hKA, hI, hlk, hStr, hR⟩ := G
  intro H locs ls hP hS hL
  exact lv_icmp_gt hx hb hd ht (fun q => kt q H locs ls hP hS hL) (fun q => kf q H locs ls hP hS hL)
theorem s_icmp_le {off : Int} {tgt : Nat} (G : OK Γ own cc nL rt fr lo) {x y : Int32} (hd : decode cc pc = .ok (.if_icmp .le off, 3)) (ht : (pc : Int) + off = (tgt : Int)) (kt : x ≤ y → WW Γ tgt L st σ) (kf : ¬ (x ≤ y) → WW Γ (pc + 3) L st σ) : WW Γ pc L (.int y :: .int x :: st) σ := by
  obtain ⟨p, l, e, R, s, m, args, below, meth, c, D, ad, cA, Q, nc, ns⟩ := Γ
  obtain ⟨hx, hb, hr, hml, hown, hts, hN, hK, hKA, hI, hlk, hStr, hR⟩ := G
  intro H locs ls hP hS hL
  exact lv_icmp_le hx hb hd ht (fun q => kt q H locs ls hP hS hL) (fun q => kf q H locs ls hP hS hL)
theorem s_if_eq {off : Int} {tgt : Nat} (G : OK Γ own cc nL rt fr lo) {x : Int32} (hd : decode cc pc = .ok (.ifCond .eq off, 3)) (ht : (pc : Int) + off = (tgt : Int)) (kt : x = 0 → WW Γ tgt L st σ) (kf : ¬ (x = 0) → WW Γ (pc + 3) L st σ) : WW Γ pc L (.int x :: st) σ := by
  obtain ⟨p, l, e, R, s, m, args, below, meth, c, D, ad, cA, Q, nc, ns⟩ := Γ
  obtain ⟨hx, hb, hr, hml, hown, hts, hN, hK, hKA, hI, hlk, hStr, hR⟩ := G
  intro H locs ls hP hS hL
  exact lv_if_eq hx hb hd ht (fun q => kt q H locs ls hP hS hL) (fun q => kf q H locs ls hP hS hL)
theorem s_if_ne {off : Int} {tgt : Nat} (G : OK Γ own cc nL rt fr lo) {x : Int32} (hd : decode cc pc = .ok (.ifCond .ne off, 3)) (ht : (pc : Int) + off = (tgt : Int)) (kt : ¬ x = 0 → WW Γ tgt L st σ) (kf : x = 0 → WW Γ (pc + 3) L st σ) : WW Γ pc L (.int x :: st) σ := by
  obtain ⟨p, l, e, R, s, m, args, below, meth, c, D, ad, cA, Q, nc, ns⟩ := Γ
  obtain ⟨hx, hb, hr, hml, hown, hts, hN, hK, hKA, hI, hlk, hStr, hR⟩ := G
  intro H locs ls hP hS hL
  exact lv_if_ne hx hb hd ht (fun q => kt q H locs ls hP hS hL) (fun q => kf q H locs ls hP hS hL)
theorem s_if_lt {off : Int} {tgt : Nat} (G : OK Γ own cc nL rt fr lo) {x : Int32} (hd : decode cc pc = .ok (.ifCond .lt off, 3)) (ht : (pc : Int) + off = (tgt : Int)) (kt : x < 0 → WW Γ tgt L st σ) (kf : ¬ (x < 0) → WW Γ (pc + 3) L st σ) : WW Γ pc L (.int x :: st) σ := by
  obtain ⟨p, l, e, R, s, m, args, below, meth, c, D, ad, cA, Q, nc, ns⟩ := Γ
  obtain ⟨hx, hb, hr, hml, hown, hts, hN, hK, hKA, hI, hlk, hStr, hR⟩ := G
  intro H locs ls hP hS hL
  exact lv_if_lt hx hb hd ht (fun q => kt q H locs ls hP hS hL) (fun q => kf q H locs ls hP hS hL)
theorem s_if_ge {off : Int} {tgt : Nat} (G : OK Γ own cc nL rt fr lo) {x : Int32} (hd : decode cc pc = .ok (.ifCond .ge off, 3)) (ht : (pc : Int) + off = (tgt : Int)) (kt : 0 ≤ x → WW Γ tgt L st σ) (kf : ¬ (0 ≤ x) → WW Γ (pc + 3) L st σ) : WW Γ pc L (.int x :: st) σ := by
  obtain ⟨p, l, e, R, s, m, args, below, meth, c, D, ad, cA, Q, nc, ns⟩ := Γ
  obtain ⟨hx, hb, hr, hml, hown, hts, hN, hK, hKA, hI, hlk, hStr, hR⟩ := G
  intro H locs ls hP hS hL
  exact lv_if_ge hx hb hd ht (fun q => kt q H locs ls hP hS hL) (fun q => kf q H locs ls hP hS hL)
theorem s_if_gt {off : Int} {tgt : Nat} (G : OK Γ own cc nL rt fr lo) {x : Int32} (hd : decode cc pc = .ok (.ifCond .gt off, 3)) (ht : (pc : Int) + off = (tgt : Int)) (kt : 0 < x → WW Γ tgt L st σ) (kf : ¬ (0 < x) → WW Γ (pc + 3) L st σ) : WW Γ pc L (.int x :: st) σ := by
  obtain ⟨p, l, e, R, s, m, args, below, meth, c, D, ad, cA, Q, nc, ns⟩ := Γ
  obtain ⟨hx, hb, hr, hml, hown, hts, hN, hK, hKA, hI, hlk, hStr, hR⟩ := G
  intro H locs ls hP hS hL
  exact lv_if_gt hx hb hd ht (fun q => kt q H locs ls hP hS hL) (fun q => kf q H locs ls hP hS hL)
theorem s_if_le {off : Int} {tgt : Nat} (G : OK Γ own cc nL rt fr lo) {x : Int32} (hd : decode cc pc = .ok (.ifCond .le off, 3)) (ht : (pc : Int) + off = (tgt : Int)) (kt : x ≤ 0 → WW Γ tgt L st σ) (kf : ¬ (x ≤ 0) → WW Γ (pc + 3) L st σ) : WW Γ pc L (.int x :: st) σ := by
  obtain ⟨p, l, e, R, s, m, args, below, meth, c, D, ad, cA, Q, nc, ns⟩ := Γ
  obtain ⟨hx, hb, hr, hml, hown, hts, hN, hK, hKA, hI, hlk, hStr, hR⟩ := G
  intro H locs ls hP hS hL
  exact lv_if_le hx hb hd ht (fun q => kt q H locs ls hP hS hL) (fun q => kf q H locs ls hP hS hL)
theorem s_lif_eq {off : Int} {tgt pc2 : Nat} {x y : Int64} (G : OK Γ own cc nL rt fr lo) (hd : decode cc pc = .ok (.lcmp, 1)) (hd2 : decode cc (pc + 1) = .ok (.ifCond .eq off, 3)) (ht : ((pc + 1 : Nat) : Int) + off = (tgt : Int)) (kt : x = y → WW Γ tgt L st σ) (kf : ¬ (x = y) → WW Γ (pc + 4) L st σ) : WW Γ pc L (.long y :: .long x :: st) σ := by
  obtain ⟨p, l, e, R, s, m, args, below, meth, c, D, ad, cA, Q, nc, ns⟩ := Γ
  obtain ⟨hx, hb, hr, hml, hown, hts, hN, hK, hKA, hI, hlk, hStr, hR⟩ := G
  intro H locs ls hP hS hL
  exact W.lcmp hx hb hd (lv_if_eq hx hb hd2 ht (fun q => kt ((lg_cmp_eq x y).mp q) H locs ls hP hS hL) (fun q => kf (fun z => q ((lg_cmp_eq x y).mpr z)) H locs ls hP hS hL))
theorem s_lif_ne {off : Int} {tgt pc2 : Nat} {x y : Int64} (G : OK Γ own cc nL rt fr lo) (hd : decode cc pc = .ok (.lcmp, 1)) (hd2 : decode cc (pc + 1) = .ok (.ifCond .ne off, 3)) (ht : ((pc + 1 : Nat) : Int) + off = (tgt : Int)) (kt : ¬ x = y → WW Γ tgt L st σ) (kf : x = y → WW Γ (pc + 4) L st σ) : WW Γ pc L (.long y :: .long x :: st) σ := by
  obtain ⟨p, l, e, R, s, m, args, below, meth, c, D, ad, cA, Q, nc, ns⟩ := Γ
  obtain ⟨hx, hb, hr, hml, hown, hts, hN, hK, hKA, hI, hlk, hStr, hR⟩ := G
  intro H locs ls hP hS hL
  exact W.lcmp hx hb hd (lv_if_ne hx hb hd2 ht (fun q => kt ((not_congr (lg_cmp_eq x y)).mp q) H locs ls hP hS hL) (fun q => kf ((lg_cmp_eq x y).mp q) H locs ls hP hS hL))
theorem s_lif_lt {off : Int} {tgt pc2 : Nat} {x y : Int64} (G : OK Γ own cc nL rt fr lo) (hd : decode cc pc = .ok (.lcmp, 1)) (hd2 : decode cc (pc + 1) = .ok (.ifCond .lt off, 3)) (ht : ((pc + 1 : Nat) : Int) + off = (tgt : Int)) (kt : x < y → WW Γ tgt L st σ) (kf : ¬ (x < y) → WW Γ (pc + 4) L st σ) : WW Γ pc L (.long y :: .long x :: st) σ := by
  obtain ⟨p, l, e, R, s, m, args, below, meth, c, D, ad, cA, Q, nc, ns⟩ := Γ
  obtain ⟨hx, hb, hr, hml, hown, hts, hN, hK, hKA, hI, hlk, hStr, hR⟩ := G
  intro H locs ls hP hS hL
  exact W.lcmp hx hb hd (lv_if_lt hx hb hd2 ht (fun q => kt ((lg_cmp_lt x y).mp q) H locs ls hP hS hL) (fun q => kf (fun z => q ((lg_cmp_lt x y).mpr z)) H locs ls hP hS hL))
theorem s_lif_ge {off : Int} {tgt pc2 : Nat} {x y : Int64} (G : OK Γ own cc nL rt fr lo) (hd : decode cc pc = .ok (.lcmp, 1)) (hd2 : decode cc (pc + 1) = .ok (.ifCond .ge off, 3)) (ht : ((pc + 1 : Nat) : Int) + off = (tgt : Int)) (kt : y ≤ x → WW Γ tgt L st σ) (kf : ¬ (y ≤ x) → WW Γ (pc + 4) L st σ) : WW Γ pc L (.long y :: .long x :: st) σ := by
  obtain ⟨p, l, e, R, s, m, args, below, meth, c, D, ad, cA, Q, nc, ns⟩ := Γ
  obtain ⟨hx, hb, hr, hml, hown, hts, hN, hK, hKA, hI, hlk, hStr, hR⟩ := G
  intro H locs ls hP hS hL
  exact W.lcmp hx hb hd (lv_if_ge hx hb hd2 ht (fun q => kt ((lg_cmp_ge x y).mp q) H locs ls hP hS hL) (fun q => kf (fun z => q ((lg_cmp_ge x y).mpr z)) H locs ls hP hS hL))
theorem s_lif_gt {off : Int} {tgt pc2 : Nat} {x y : Int64} (G : OK Γ own cc nL rt fr lo) (hd : decode cc pc = .ok (.lcmp, 1)) (hd2 : decode cc (pc + 1) = .ok (.ifCond .gt off, 3)) (ht : ((pc + 1 : Nat) : Int) + off = (tgt : Int)) (kt : y < x → WW Γ tgt L st σ) (kf : ¬ (y < x) → WW Γ (pc + 4) L st σ) : WW Γ pc L (.long y :: .long x :: st) σ := by
  obtain ⟨p, l, e, R, s, m, args, below, meth, c, D, ad, cA, Q, nc, ns⟩ := Γ
  obtain ⟨hx, hb, hr, hml, hown, hts, hN, hK, hKA, hI, hlk, hStr, hR⟩ := G
  intro H locs ls hP hS hL
  exact W.lcmp hx hb hd (lv_if_gt hx hb hd2 ht (fun q => kt ((lg_cmp_gt x y).mp q) H locs ls hP hS hL) (fun q => kf (fun z => q ((lg_cmp_gt x y).mpr z)) H locs ls hP hS hL))
theorem s_lif_le {off : Int} {tgt pc2 : Nat} {x y : Int64} (G : OK Γ own cc nL rt fr lo) (hd : decode cc pc = .ok (.lcmp, 1)) (hd2 : decode cc (pc + 1) = .ok (.ifCond .le off, 3)) (ht : ((pc + 1 : Nat) : Int) + off = (tgt : Int)) (kt : x ≤ y → WW Γ tgt L st σ) (kf : ¬ (x ≤ y) → WW Γ (pc + 4) L st σ) : WW Γ pc L (.long y :: .long x :: st) σ := by
  obtain ⟨p, l, e, R, s, m, args, below, meth, c, D, ad, cA, Q, nc, ns⟩ := Γ
  obtain ⟨hx, hb, hr, hml, hown, hts, hN, hK, hKA, hI, hlk, hStr, hR⟩ := G
  intro H locs ls hP hS hL
  exact W.lcmp hx hb hd (lv_if_le hx hb hd2 ht (fun q => kt ((lg_cmp_le x y).mp q) H locs ls hP hS hL) (fun q => kf (fun z => q ((lg_cmp_le x y).mpr z)) H locs ls hP hS hL))
theorem s_goto {off : Int} {tgt : Nat} (G : OK Γ own cc nL rt fr lo) (hd : decode cc pc = .ok (.goto off, 3)) (ht : (pc : Int) + off = (tgt : Int)) (k : WW Γ tgt L st σ) : WW Γ pc L st σ := by
  obtain ⟨p, l, e, R, s, m, args, below, meth, c, D, ad, cA, Q, nc, ns⟩ := Γ
  obtain ⟨hx, hb, hr, hml, hown, hts, hN, hK, hKA, hI, hlk, hStr, hR⟩ := G
  intro H locs ls hP hS hL
  exact lv_goto hx hb hd ht (k H locs ls hP hS hL)
theorem s_ifnull {off : Int} {x : Nat} (G : OK Γ own cc nL rt fr lo) (hd : decode cc pc = .ok (.ifnull off, 3)) (k : WW Γ (pc + 3) L st σ) : WW Γ pc L (.ref x :: st) σ := by
  obtain ⟨p, l, e, R, s, m, args, below, meth, c, D, ad, cA, Q, nc, ns⟩ := Γ
  obtain ⟨hx, hb, hr, hml, hown, hts, hN, hK, hKA, hI, hlk, hStr, hR⟩ := G
  intro H locs ls hP hS hL
  exact lv_ifnull hx hb hd (k H locs ls hP hS hL)
theorem s_tabIn {dflt lw hi : Int} {offs : Array Int} {len : Nat} {x : Int32} {off : Int} {tgt : Nat} (G : OK Γ own cc nL rt fr lo) (hd : decode cc pc = .ok (.tableswitch dflt lw hi offs, len)) (h1 : ¬ x.toInt < lw) (h2 : ¬ hi < x.toInt) (ho : offs[(x.toInt - lw).toNat]? = some off) (ht : (pc : Int) + off = (tgt : Int)) (k : WW Γ tgt L st σ) : WW Γ pc L (.int x :: st) σ := by
  obtain ⟨p, l, e, R, s, m, args, below, meth, c, D, ad, cA, Q, nc, ns⟩ := Γ
  obtain ⟨hx, hb, hr, hml, hown, hts, hN, hK, hKA, hI, hlk, hStr, hR⟩ := G
  intro H locs ls hP hS hL
  exact lv_tableIn hx hb hd h1 h2 ho ht (k H locs ls hP hS hL)
theorem s_tabOut {dflt lw hi : Int} {offs : Array Int} {len : Nat} {x : Int32} {tgt : Nat} (G : OK Γ own cc nL rt fr lo) (hd : decode cc pc = .ok (.tableswitch dflt lw hi offs, len)) (h : x.toInt < lw ∨ hi < x.toInt) (ht : (pc : Int) + dflt = (tgt : Int)) (k : WW Γ tgt L st σ) : WW Γ pc L (.int x :: st) σ := by
  obtain ⟨p, l, e, R, s, m, args, below, meth, c, D, ad, cA, Q, nc, ns⟩ := Γ
  obtain ⟨hx, hb, hr, hml, hown, hts, hN, hK, hKA, hI, hlk, hStr, hR⟩ := G
  intro H locs ls hP hS hL
  exact lv_tableOut hx hb hd h ht (k H locs ls hP hS hL)
/-- a number gets a name -/
theorem s_topi {x : Int32} (k : ∀ y : Int32, y = x → WW Γ pc L (.int y :: st) σ) : WW Γ pc L (.int x :: st) σ := k x rfl
theorem s_topl {x : Int64} (k : ∀ y : Int64, y = x → WW Γ pc L (.long y :: st) σ) : WW Γ pc L (.long x :: st) σ := k x rfl
theorem s_st {σ0 : St} (k : ∀ σ1 : St, σ1 = σ0 → WW Γ pc L st σ1) : WW Γ pc L st σ0 := k σ0 rfl
end RW
