/-! rows of longs, six of eight, made by one instruction: the machine's side -/
section MU
variable {p : Program} {l : Launch} {e : Env} {R : Room} {s : State} {m : MethodId} {args : Array Value} {below : List Frame} {meth : Method} {c : Code} {H : Heap} {locs : List Loc} {cells slots : Nat} {Q : State → Prop}
def mu_f (h0 i : Nat) : Nat → Option Nat := fun j => if j < i then some (h0 + 1 + j) else none
def mu_o (cA : ClassId) (h0 i : Nat) : Cell := arrV cA 6 (fun j => va_rf (mu_f h0 i j))
def mu_r (comp : ClassId) : Cell := arrV comp 8 (fun _ => .long 0)
theorem mu_o_set {cA : ClassId} {h0 i : Nat} : (mu_o cA h0 i).setSlot i (.ref (h0 + 1 + i)) = mu_o cA h0 (i + 1) := by
  unfold mu_o
  rw [arrV_store]
  congr 1
  funext j
  unfold updV mu_f
  by_cases e : j = i
  · subst e
    rw [if_pos rfl, if_pos (Nat.lt_succ_self j)]
    rfl
  · rw [if_neg e]
    show va_rf (if j < i then some (h0 + 1 + j) else none) = _
    by_cases hj : j < i
    · rw [if_pos hj, if_pos (by omega)]
    · rw [if_neg hj, if_neg (by omega)]
theorem mu_row {S : State} {E : CtlPost} {d : Bool} {acts : List Action} {comp c0 : ClassId} {kC : Class} (hk : S.vm.classes[comp]? = some kC) (hkind : kC.kind = .array c0 .long) (hl : ¬ 8 > e.platform.arrayLengthLimit) (hh : ¬ 8 * componentBytes .long > e.platform.maxHeapBytes) (h1 : S.heap.size < e.platform.maxCells) (h2 : S.slotsUsed + 8 ≤ e.platform.maxSlots)
    {Q : Addr → Pre} (hq : ∀ acts', Q S.heap.size d acts' (S.pushCell (mu_r comp))) : wp (multianewarray.make comp [8]) Q E e d acts S := by
  rw [multianewarray.make]
  simp only [wp_bind', W.ite, show ¬ ((8 : Int32) < 0) from by decide, if_false, wp_pure', W.theClass, hk, hkind, Option.some.injEq, exists_eq_left']
  refine W.newArray_of (howMany := 8) (init := .long 0) hk hkind hl hh h1 h2 rfl (fun a9 => ?_)
  have h9 := hq a9
  unfold mu_r at h9
  rw [← arrV_new] at h9
  exact h9
theorem mu_loop {cA comp c0 : ClassId} {kA kC : Class} {f : JFrame} {h0 : Nat} {vm₁ : Vm} (hkA : vm₁.classes[cA]? = some kA) (hkindA : kA.kind = .array comp (.array .long)) (hkC : vm₁.classes[comp]? = some kC) (hkindC : kC.kind = .array c0 .long) (hl : ¬ 8 > e.platform.arrayLengthLimit) (hh : ¬ 8 * componentBytes .long > e.platform.maxHeapBytes)
    {bd : Nat → PUnit → Sem (ForInStep PUnit)} (hbd : ∀ i u, bd i u = (do let a ← multianewarray.make comp [8]; Jvm.writeLoc h0 i (.ref a); Pure.pure (ForInStep.yield PUnit.unit))) (h1 : cells + 7 ≤ R.cells) (h2 : slots + 54 ≤ R.slots) :
    ∀ (d i : Nat) (U : State) (ls : List Loc), i + d = 6 → Stand p l e R s m args below meth c U ls (cells + 1 + i) (slots + 6 + 8 * i) → U.vm = vm₁ → U.heap.size = h0 + 1 + i → U.heap[h0]? = some (mu_o cA h0 i) → (∀ j, j < i → U.heap[h0 + 1 + j]? = some (mu_r comp)) → (∀ a, a < h0 → U.heap[a]? = H[a]?) → (∀ q ∈ ls, q ∈ locs ∨ q.base = h0) →
    ∃ (U' : State) (ls' : List Loc), Stand p l e R s m args below meth c U' ls' (cells + 7) (slots + 54) ∧ U'.heap.size = h0 + 7 ∧ U'.heap[h0]? = some (mu_o cA h0 6) ∧ (∀ j, j < 6 → U'.heap[h0 + 1 + j]? = some (mu_r comp)) ∧ (∀ a, a < h0 → U'.heap[a]? = H[a]?) ∧ (∀ q ∈ ls', q ∈ locs ∨ q.base = h0) ∧
      ∀ (Q : PUnit → Pre) (E : CtlPost) (dd : Bool) (acts : List Action), (∀ dd' acts', Q PUnit.unit dd' acts' (U'.setTop f)) → wp (forIn (List.range' i d) PUnit.unit bd) Q E e dd acts (U.setTop f) := by
  intro d
  induction d with
  | zero =>
    intro i U ls hi X hv hz ho hr hold hls
    have e6 : i = 6 := by omega
    subst e6
    refine ⟨U, ls, X, hz, ho, hr, hold, hls, fun Q E dd acts hq => ?_⟩
    simp only [List.range', List.forIn_nil, wp_pure']
    exact hq _ _
  | succ d ih =>
    intro i U ls hi X hv hz ho hr hold hls
    have hi6 : i < 6 := by omega
    have lt0 : h0 < U.heap.size := by omega
    have hcell : (U.pushCell (mu_r comp)).heap[h0]? = some (mu_o cA h0 i) := by rw [State.heap_pushCell_of_lt (h := lt0)]; exact ho
    have X1 := (X.pushed (mu_r comp)).stored hcell i (.ref (h0 + 1 + i))
    rw [mu_o_set] at X1
    have esz : (mu_r comp).slots.size = 8 := arrV_size _ _ _
    rw [esz] at X1
    obtain ⟨r1, r2⟩ := X.roomAbove (a := 1) (b := 8) (by omega) (by omega)
    obtain ⟨U', ls', X', z', o', rr', old', l', wq⟩ := ih (i + 1) ((U.pushCell (mu_r comp)).setCell h0 (mu_o cA h0 (i + 1))) (ls ++ [⟨h0, i⟩]) (by omega) X1 hv (by
        show (Array.setIfInBounds _ _ _).size = _
        rw [Array.size_setIfInBounds, State.heap_size_pushCell, hz]; omega) (State.heap_setCell_self hcell) (fun j hj => by
        rw [State.heap_setCell_other (show h0 ≠ h0 + 1 + j by omega)]
        by_cases e : j = i
        · subst e
          rw [← hz]
          exact State.heap_pushCell_size _ _
        · rw [State.heap_pushCell_of_lt (h := show h0 + 1 + j < U.heap.size by omega)]
          exact hr j (by omega)) (fun a ha => by
        rw [State.heap_setCell_other (show h0 ≠ a by omega), State.heap_pushCell_of_lt (h := show a < U.heap.size by omega)]
        exact hold a ha) (fun q hq => by
        rcases List.mem_append.mp hq with h | h
        · exact hls q h
        · rw [List.mem_singleton.mp h]
          exact Or.inr rfl)
    refine ⟨U', ls', X', z', o', rr', old', l', fun Q E dd acts hq => ?_⟩
    rw [List.range'_succ]
    simp only [List.forIn_cons, hbd, wp_bind']
    refine mu_row (S := U.setTop f) (by rw [State.vm_setTop, hv]; exact hkC) hkindC hl hh (by show U.heap.size < _; omega) (by rw [State.slotsUsed_setTop]; exact r2) (fun a9 => ?_)
    simp only [wp_bind', W.writeLoc, wp_pure']
    refine ⟨mu_o cA h0 i, hcell, (fun h => by cases h), (by show i < (mu_o cA h0 i).slots.size; rw [show (mu_o cA h0 i).slots.size = 6 from arrV_size _ _ _]; exact hi6), ?_, ?_⟩
    · simp [State.fitsSlot, State.slotType?, mu_o, arrV, hv, hkA, hkindA, fits]
    · have e1 : (mu_o cA h0 i).setSlot i (.ref (U.setTop f).heap.size) = mu_o cA h0 (i + 1) := by
        rw [State.heap_setTop, hz]
        exact mu_o_set
      rw [e1]
      exact wq Q E _ _ hq
theorem mu_make {S : State} {E : CtlPost} {d : Bool} {acts : List Action} {cA comp : ClassId} {kA : Class} (hk : S.vm.classes[cA]? = some kA) (hkind : kA.kind = .array comp (.array .long)) (l6 : ¬ 6 > e.platform.arrayLengthLimit) (b6 : ¬ 6 * componentBytes (.array .long) > e.platform.maxHeapBytes) (h1 : S.heap.size < e.platform.maxCells) (h2 : S.slotsUsed + 6 ≤ e.platform.maxSlots)
    {Q : Addr → Pre} (hq : ∀ a9, wp (forIn (List.range' 0 6) PUnit.unit (fun i (_ : PUnit) => (do let a ← multianewarray.make comp [8]; Jvm.writeLoc S.heap.size i (.ref a); Pure.pure (ForInStep.yield PUnit.unit) : Sem (ForInStep PUnit)))) (fun _ d' a' s' => Q S.heap.size d' a' s') E e d a9 (S.pushCell (mu_o cA S.heap.size 0))) : wp (multianewarray.make cA [6, 8]) Q E e d acts S := by
  rw [multianewarray.make]
  simp only [wp_bind', W.ite, show ¬ ((6 : Int32) < 0) from by decide, if_false, wp_pure', W.theClass, hk, hkind, Option.some.injEq, exists_eq_left']
  refine W.newArray_of (howMany := 6) (init := .null) hk hkind l6 b6 h1 h2 rfl (fun a9 => ?_)
  simp only [show ((6 : Int32) == 0) = false from rfl, Bool.false_eq_true, if_false]
  rw [wp_bind', Std.Legacy.Range.forIn_eq_forIn_range']
  have h9 := hq a9
  unfold mu_o at h9
  have e0 : (fun j => va_rf (mu_f S.heap.size 0 j)) = fun _ => Value.null := by
    funext j
    simp [mu_f, va_rf]
  rw [e0, ← arrV_new] at h9
  exact h9
/-- a class's kind stays as the tables warm -/
theorem mu_kind {v w : Vm} (hA : v.Alike w) {i : ClassId} {k : Class} (hi : v.classes[i]? = some k) : ∃ k', w.classes[i]? = some k' ∧ k'.kind = k.kind := by
  rcases hA.2.2 i k hi with ⟨k', a, b⟩
  have same := congrArg Class.kind b
  exact ⟨k', a, same⟩
/-- the instruction as three acts: the class is looked up, the two counts are taken off, the array is made; then its address is pushed -/
theorem mu_sem {t : State} {w : Vm} {mm : MethodId} {index : Nat} {cA : ClassId} {f : JFrame} {rest : List Value} {K : Unit → Pre} {E : CtlPost} {d : Bool} {acts : List Action}
    (h1 : t.method? = some mm) (h2 : (Jvm.resolveClass mm.cls index).Gives e.toSetting t.vm (.ok cA) w) (h3 : w.classes.size ≤ t.vm.classes.size) (h4 : (t.setVm w).topJava? = some f) (h5 : f.stack = .int 8 :: .int 6 :: rest)
    (h6 : wp (multianewarray.make cA [6, 8]) (fun a d' acts' u => ∃ f', u.topJava? = some f' ∧ K () true acts' (u.setTop { f' with stack := .ref a :: f'.stack })) E e true acts ((t.setVm w).setTop { f with stack := rest })) : wp (multianewarray.sem index 2) K E e d acts t := by
  unfold multianewarray.sem
  rw [wp_bind', W.resolveClassAt_links h1 h2 h3, wp_bind', W.popN 2, if_neg (show ¬ (2 = 0) from fun h => nomatch h)]
  refine ⟨f, h4, [.int 6, .int 8], rest, rfl, h5, ?_⟩
  show wp (multianewarray.make cA [6, 8] >>= fun a => (do Jvm.mark "op.multianewarray"; Jvm.pushRef a)) K E e true acts _
  rw [wp_bind']
  exact h6
theorem w_multi {cc : ByteArray} (hexec : p.tables.exec = Jvm.exec) (hb : c.code = cc) {own : String} {index : Nat} (hown : s.vm.findClass own = some m.cls) (hclink : (Cond.classLink own index "[[J").before args s = true) {comp cA : ClassId} {kA : Class} (hcomp : s.vm.findClass "[J" = some comp) (hkA : s.vm.classes[cA]? = some kA) (hkindA : kA.kind = .array comp (.array .long)) (hnm : s.vm.findClass "[[J" = some cA) (harr : (Cond.arrayClass .long).before args s = true)
    {g : JFrame} (hg : g.method = m) (hdg : decode cc g.pc = .ok (.multianewarray index 2, 4)) {rest : List Value} (hstack : g.stack = .int 8 :: .int 6 :: rest) (hcells : cells + 7 ≤ R.cells) (hslots : slots + 54 ≤ R.slots)
    (kk : ∀ (H1 : Heap) (locs1 : List Loc), H1.size = H.size + 7 → H1[H.size]? = some (mu_o cA H.size 6) → (∀ j, j < 6 → H1[H.size + 1 + j]? = some (mu_r comp)) → (∀ a, a < H.size → H1[a]? = H[a]?) → (∀ q ∈ locs1, q ∈ locs ∨ q.base = H.size) → W p l e R s m args below meth c H1 locs1 (cells + 7) (slots + 54) Q { g with pc := g.pc + 4, stack := .ref H.size :: rest }) : W p l e R s m args below meth c H locs cells slots Q g := by
  intro T hT X
  subst hT hb hg
  -- the class that the pool's entry names is cA
  have acc := congrArg Platform.magicAccessors X.admits.platform
  have ⟨cL, fL, lk⟩ := Cond.classLink_spec hown hclink e.platform acc
  have eL : cL = cA := Option.some.inj (fL.symm.trans hnm)
  rw [eL] at lk
  -- the tables behind the look-up: w
  have ⟨gv, ww, _⟩ := State.classEntry (e := e) X.warmed lk
  revert gv ww
  generalize T.vm.noted g.method.cls index (.cls cA) = w
  intro gv ww
  have ⟨kO, iO, kindO⟩ := mu_kind ww.alike hkA
  have ⟨comp₂, k₂, c0, f₂, i₂, kind₂⟩ := Cond.arrayClass_spec harr
  have e₂ : comp₂ = comp := Option.some.inj (f₂.symm.trans hcomp)
  rw [e₂] at i₂
  have ⟨kI, iI, kindI⟩ := mu_kind ww.alike i₂
  -- seven cells with 54 slots find room
  have ⟨rc, rs⟩ := X.roomAbove hcells hslots
  have lim : ∀ n : Nat, n ≤ 8 → ¬ n > e.platform.arrayLengthLimit := fun n hn => by rw [Launch.admits_arrayLengthLimit X.admits]; omega
  have byt : ∀ n : Nat, n ≤ 64 → ¬ n > e.platform.maxHeapBytes := fun n hn => by rw [Launch.admits_maxHeapBytes X.admits]; omega
  -- the outer row, then the loop over its six places
  have Y := (X.noted ww).pushed (mu_o cA T.heap.size 0)
  rw [show (mu_o cA T.heap.size 0).slots.size = 6 from arrV_size _ _ _] at Y
  have ⟨U, ls, XU, zU, oU, rU, bU, lU, run⟩ := mu_loop (H := T.heap) (locs := locs) (f := { g with stack := rest }) (h0 := T.heap.size) iO (kindO.trans hkindA) iI (kindI.trans kind₂) (lim 8 (by decide)) (byt (8 * componentBytes .long) (by decide)) (bd := fun i u => (do let a ← multianewarray.make comp [8]; Jvm.writeLoc T.heap.size i (.ref a); Pure.pure (ForInStep.yield PUnit.unit))) (fun _ _ => rfl) hcells hslots 6 0 _ locs rfl Y rfl (State.heap_size_pushCell _ _) (State.heap_pushCell_size _ _) (fun j hj => absurd hj (Nat.not_lt_zero j)) (fun a ha => State.heap_pushCell_of_lt (T.setVm w) _ ha) (fun q hq => Or.inl hq)
  have ⟨t', go, ends⟩ := kk U.heap ls zU oU rU bU lU U rfl XU
  refine ⟨t', ?_, ends⟩
  jvm_step X.here [hexec, hdg]
  apply mu_sem (State.method?_setTop g X.here.top) gv (Nat.le_of_eq (ww.alike.2.1.trans X.warmed.alike.2.1.symm)) (State.topJava?_setTop' (s := T.setVm w) g X.here.top) hstack
  have two : ((T.setTop g).setVm w).setTop { g with stack := rest } = (T.setVm w).setTop { g with stack := rest } := State.setTop_setTop (s := T.setVm w) ..
  rw [two]
  apply mu_make (S := (T.setVm w).setTop { g with stack := rest }) iO (kindO.trans hkindA) (lim 6 (by decide)) (byt (6 * componentBytes (.array .long)) (by decide)) (by show T.heap.size < _; omega) (by show T.slotsUsed + 6 ≤ _; omega)
  intro a9
  apply run
  intro dd' acts'
  refine ⟨{ g with stack := rest }, State.topJava?_setTop' (s := U) _ XU.here.top, ?_⟩
  rw [State.setTop_setTop]
  simp [jvm, XU.here.top]
  exact go
end MU
