/-! rows of longs, six of eight, made by one instruction: the machine's side -/
section MU
variable {p : Program} {l : Launch} {e : Env} {R : Room} {s : State} {m : MethodId} {args : Array Value} {below : List Frame} {meth : Method} {c : Code} {H : Heap} {locs : List Loc} {cells slots : Nat} {Q : State → Prop}
def mu_f (h0 i : Nat) : Nat → Option Nat := fun j => if j < i then some (h0 + 1 + j) else none
def mu_o (cA : ClassId) (h0 i : Nat) : Cell := arrV cA 6 (fun j => va_rf (mu_f h0 i j))
def mu_r (comp : ClassId) : Cell := arrV comp 8 (fun _ => .long 0)
theorem mu_o_set {cA : ClassId} {h0 i : Nat} : (mu_o cA h0 i).setSlot i (.ref (h0 + 1 + i)) = mu_o cA h0 (i + 1) := by
  unfold mu_o
  rw [arrV_store]
  congr 1
  funext j
  unfold updV mu_f
  by_cases e : j = i
  · subst e
    rw [if_pos rfl, if_pos (Nat.lt_succ_self j)]
    rfl
  · rw [if_neg e]
    show va_rf (if j < i then some (h0 + 1 + j) else none) = _
    by_cases hj : j < i
    · rw [if_pos hj, if_pos (by omega)]
    · rw [if_neg hj, if_neg (by omega)]
theorem mu_row {S : State} {E : CtlPost} {d : Bool} {acts : List Action} {comp c0 : ClassId} {kC : Class} (hk : S.vm.classes[comp]? = some kC) (hkind : kC.kind = .array c0 .long) (hl : ¬ 8 > e.platform.arrayLengthLimit) (hh : ¬ 8 * componentBytes .long > e.platform.maxHeapBytes) (h1 : S.heap.size < e.platform.maxCells) (h2 : S.slotsUsed + 8 ≤ e.platform.maxSlots)
    {Q : Addr → Pre} (hq : ∀ acts', Q S.heap.size d acts' (S.pushCell (mu_r comp))) : wp (multianewarray.make comp [8]) Q E e d acts S := by
  rw [multianewarray.make]
  simp only [wp_bind', W.ite, show ¬ ((8 : Int32) < 0) from by decide, if_false, wp_pure', W.theClass, hk, hkind, Option.some.injEq, exists_eq_left']
  refine W.newArray_of (howMany := 8) (init := .long 0) hk hkind hl hh h1 h2 rfl (fun a9 => ?_)
  have h9 := hq a9
  unfold mu_r at h9
  rw [← arrV_new] at h9
  exact h9
theorem mu_loop {cA comp c0 : ClassId} {kA kC : Class} {f : JFrame} {h0 : Nat} {vm₁ : Vm} (hkA : vm₁.classes[cA]? = some kA) (hkindA : kA.kind = .array comp (.array .long)) (hkC : vm₁.classes[comp]? = some kC) (hkindC : kC.kind = .array c0 .long) (hl : ¬ 8 > e.platform.arrayLengthLimit) (hh : ¬ 8 * componentBytes .long > e.platform.maxHeapBytes)
    {bd : Nat → PUnit → Sem (ForInStep PUnit)} (hbd : ∀ i u, bd i u = (do let a ← multianewarray.make comp [8]; Jvm.writeLoc h0 i (.ref a); Pure.pure (ForInStep.yield PUnit.unit))) (h1 : cells + 7 ≤ R.cells) (h2 : slots + 54 ≤ R.slots) :
    ∀ (d i : Nat) (U : State) (ls : List Loc), i + d = 6 → Stand p l e R s m args below meth c U ls (cells + 1 + i) (slots + 6 + 8 * i) → U.vm = vm₁ → U.heap.size = h0 + 1 + i → U.heap[h0]? = some (mu_o cA h0 i) → (∀ j, j < i → U.heap[h0 + 1 + j]? = some (mu_r comp)) → (∀ a, a < h0 → U.heap[a]? = H[a]?) → (∀ q ∈ ls, q ∈ locs ∨ q.base = h0) →
    ∃ (U' : State) (ls' : List Loc), Stand p l e R s m args below meth c U' ls' (cells + 7) (slots + 54) ∧ U'.heap.size = h0 + 7 ∧ U'.heap[h0]? = some (mu_o cA h0 6) ∧ (∀ j, j < 6 → U'.heap[h0 + 1 + j]? = some (mu_r comp)) ∧ (∀ a, a < h0 → U'.heap[a]? = H[a]?) ∧ (∀ q ∈ ls', q ∈ locs ∨ q.base = h0) ∧
      ∀ (Q : PUnit → Pre) (E : CtlPost) (dd : Bool) (acts : List Action), (∀ dd' acts', Q PUnit.unit dd' acts' (U'.setTop f)) → wp (forIn (List.range' i d) PUnit.unit bd) Q E e dd acts (U.setTop f) := by
  intro d
  induction d with
  | zero =>
    intro i U ls hi X hv hz ho hr hold hls
    have e6 : i = 6 := by omega
    subst e6
    refine ⟨U, ls, X, hz, ho, hr, hold, hls, fun Q E dd acts hq => ?_⟩
    simp only [List.range', List.forIn_nil, wp_pure']
    exact hq _ _
  | succ d ih =>
    intro i U ls hi X hv hz ho hr hold hls
    have hi6 : i < 6 := by omega
    have lt0 : h0 < U.heap.size := by omega
    have hcell : (U.pushCell (mu_r comp)).heap[h0]? = some (mu_o cA h0 i) := by rw [State.heap_pushCell_of_lt (h := lt0)]; exact ho
    have X1 := (X.pushed (mu_r comp)).stored hcell i (.ref (h0 + 1 + i))
    rw [mu_o_set] at X1
    have esz : (mu_r comp).slots.size = 8 := arrV_size _ _ _
    rw [esz] at X1
    obtain ⟨r1, r2⟩ := X.roomAbove (a := 1) (b := 8) (by omega) (by omega)
    obtain ⟨U', ls', X', z', o', rr', old', l', wq⟩ := ih (i + 1) ((U.pushCell (mu_r comp)).setCell h0 (mu_o cA h0 (i + 1))) (ls ++ [⟨h0, i⟩]) (by omega) X1 hv (by
        show (Array.setIfInBounds _ _ _).size = _
        rw [Array.size_setIfInBounds, State.heap_size_pushCell, hz]; omega) (State.heap_setCell_self hcell) (fun j hj => by
        rw [State.heap_setCell_other (show h0 ≠ h0 + 1 + j by omega)]
        by_cases e : j = i
        · subst e
          rw [← hz]
          exact State.heap_pushCell_size _ _
        · rw [State.heap_pushCell_of_lt (h := show h0 + 1 + j < U.heap.size by omega)]
          exact hr j (by omega)) (fun a ha => by
        rw [State.heap_setCell_other (show h0 ≠ a by omega), State.heap_pushCell_of_lt (h := show a < U.heap.size by omega)]
        exact hold a ha) (fun q hq => by
        rcases List.mem_append.mp hq with h | h
        · exact hls q h
        · rw [List.mem_singleton.mp h]
          exact Or.inr rfl)
    refine ⟨U', ls', X', z', o', rr', old', l', fun Q E dd acts hq => ?_⟩
    rw [List.range'_succ]
    simp only [List.forIn_cons, hbd, wp_bind']
    refine mu_row (S := U.setTop f) (by rw [State.vm_setTop, hv]; exact hkC) hkindC hl hh (by show U.heap.size < _; omega) (by rw [State.slotsUsed_setTop]; exact r2) (fun a9 => ?_)
    simp only [wp_bind', W.writeLoc, wp_pure']
    refine ⟨mu_o cA h0 i, hcell, (fun h => by cases h), (by show i < (mu_o cA h0 i).slots.size; rw [show (mu_o cA h0 i).slots.size = 6 from arrV_size _ _ _]; exact hi6), ?_, ?_⟩
    · simp [State.fitsSlot, State.slotType?, mu_o, arrV, hv, hkA, hkindA, fits]
    · have e1 : (mu_o cA h0 i).setSlot i (.ref (U.setTop f).heap.size) = mu_o cA h0 (i + 1) := by
        rw [State.heap_setTop, hz]
        exact mu_o_set
      rw [e1]
      exact wq Q E _ _ hq
theorem mu_make {S : State} {E : CtlPost} {d : Bool} {acts : List Action} {cA comp : ClassId} {kA : Class} (hk : S.vm.classes[cA]? = some kA) (hkind : kA.kind = .array comp (.array .long)) (l6 : ¬ 6 > e.platform.arrayLengthLimit) (b6 : ¬ 6 * componentBytes (.array .long) > e.platform.maxHeapBytes) (h1 : S.heap.size < e.platform.maxCells) (h2 : S.slotsUsed + 6 ≤ e.platform.maxSlots)
    {Q : Addr → Pre} (hq : ∀ a9, wp (forIn (List.range' 0 6) PUnit.unit (fun i (_ : PUnit) => (do let a ← multianewarray.make comp [8]; Jvm.writeLoc S.heap.size i (.ref a); Pure.pure (ForInStep.yield PUnit.unit) : Sem (ForInStep PUnit)))) (fun _ d' a' s' => Q S.heap.size d' a' s') E e d a9 (S.pushCell (mu_o cA S.heap.size 0))) : wp (multianewarray.make cA [6, 8]) Q E e d acts S := by
  rw [multianewarray.make]
  simp only [wp_bind', W.ite, show ¬ ((6 : Int32) < 0) from by decide, if_false, wp_pure', W.theClass, hk, hkind, Option.some.injEq, exists_eq_left']
  refine W.newArray_of (howMany := 6) (init := .null) hk hkind l6 b6 h1 h2 rfl (fun a9 => ?_)
  simp only [show ((6 : Int32) == 0) = false from rfl, Bool.false_eq_true, if_false]
  rw [wp_bind', Std.Legacy.Range.forIn_eq_forIn_range']
  have h9 := hq a9
  unfold mu_o at h9
  have e0 : (fun j => va_rf (mu_f S.heap.size 0 j)) = fun _ => Value.null := by
    funext j
    simp [mu_f, va_rf]
  rw [e0, ← arrV_new] at h9
  exact h9
theorem w_multi {cc : ByteArray} (hexec : p.tables.exec = Jvm.exec) (hb : c.code = cc) {own : String} {index : Nat} (hown : s.vm.findClass own = some m.cls) (hclink : (Cond.classLink own index "[[J").before args s = true) {comp cA : ClassId} {kA : Class} (hcomp : s.vm.findClass "[J" = some comp) (hkA : s.vm.classes[cA]? = some kA) (hkindA : kA.kind = .array comp (.array .long)) (hnm : s.vm.findClass "[[J" = some cA) (harr : (Cond.arrayClass .long).before args s = true)
    {g : JFrame} (hg : g.method = m) (hdg : decode cc g.pc = .ok (.multianewarray index 2, 4)) {rest : List Value} (hstack : g.stack = .int 8 :: .int 6 :: rest) (hcells : cells + 7 ≤ R.cells) (hslots : slots + 54 ≤ R.slots)
    (kk : ∀ (H1 : Heap) (locs1 : List Loc), H1.size = H.size + 7 → H1[H.size]? = some (mu_o cA H.size 6) → (∀ j, j < 6 → H1[H.size + 1 + j]? = some (mu_r comp)) → (∀ a, a < H.size → H1[a]? = H[a]?) → (∀ q ∈ locs1, q ∈ locs ∨ q.base = H.size) → W p l e R s m args below meth c H1 locs1 (cells + 7) (slots + 54) Q { g with pc := g.pc + 4, stack := .ref H.size :: rest }) : W p l e R s m args below meth c H locs cells slots Q g := by
  intro T hT X
  subst hT; subst hb; subst hg
  have hpl : e.platform.magicAccessors = ({} : Platform).magicAccessors := by rw [X.admits.platform]
  obtain ⟨comp', kC, c0, hcomp', hkC, hkindC⟩ := Cond.arrayClass_spec harr
  have ec : comp' = comp := Option.some.inj (hcomp'.symm.trans hcomp)
  subst ec
  obtain ⟨cc', hfcc, hcl⟩ := Cond.classLink_spec hown hclink e.platform hpl
  cases hnm.symm.trans hfcc
  obtain ⟨hg₁, hwarm₁, hready₁⟩ := State.classEntry (e := e) X.warmed hcl
  generalize T.vm.noted g.method.cls index (.cls cA) = vm₁ at hg₁ hwarm₁ hready₁
  have hal : s.vm.Alike vm₁ := hwarm₁.alike
  obtain ⟨kA₁, hkA₁, heA⟩ := hal.2.2 _ _ hkA
  obtain ⟨kC₁, hkC₁, heC⟩ := hal.2.2 _ _ hkC
  have hkindA₁ : kA₁.kind = .array comp' (.array .long) := by rw [heA]; exact hkindA
  have hkindC₁ : kC₁.kind = .array c0 .long := by rw [heC]; exact hkindC
  have X₁ := X.noted hwarm₁
  obtain ⟨r1, r2⟩ := X.roomAbove (a := 7) (b := 54) hcells hslots
  have l6 : ¬ 6 > e.platform.arrayLengthLimit := by rw [Launch.admits_arrayLengthLimit X.admits]; decide
  have l8 : ¬ 8 > e.platform.arrayLengthLimit := by rw [Launch.admits_arrayLengthLimit X.admits]; decide
  have b6 : ¬ 6 * componentBytes (.array .long) > e.platform.maxHeapBytes := by rw [Launch.admits_maxHeapBytes X.admits]; decide
  have b8 : ¬ 8 * componentBytes .long > e.platform.maxHeapBytes := by rw [Launch.admits_maxHeapBytes X.admits]; decide
  have X₂ := X₁.pushed (mu_o cA T.heap.size 0)
  rw [show (mu_o cA T.heap.size 0).slots.size = 6 from arrV_size _ _ _] at X₂
  obtain ⟨U', ls', X', z', o', rr', old', l', wq⟩ := mu_loop (H := T.heap) (locs := locs) (f := { g with stack := rest }) (h0 := T.heap.size) hkA₁ hkindA₁ hkC₁ hkindC₁ l8 b8 (bd := fun i u => (do let a ← multianewarray.make comp' [8]; Jvm.writeLoc T.heap.size i (.ref a); Pure.pure (ForInStep.yield PUnit.unit))) (fun _ _ => rfl) hcells hslots 6 0 _ locs rfl X₂ rfl (State.heap_size_pushCell _ _) (State.heap_pushCell_size _ _) (fun j hj => absurd hj (Nat.not_lt_zero j)) (fun a ha => State.heap_pushCell_of_lt (T.setVm vm₁) _ ha) (fun q hq => Or.inl hq)
  obtain ⟨t', a1, b1⟩ := kk U'.heap ls' z' o' rr' old' l' U' rfl X'
  refine ⟨t', ?_, b1⟩
  jvm_step X.here [hexec, hdg]
  simp only [multianewarray.sem, wp_bind', W.resolveClassAt_links (State.method?_setTop g X.here.top) hg₁]
  rw [W.popN, if_neg (by decide)]
  refine ⟨g, State.topJava?_setTop' (s := T.setVm vm₁) g X.here.top, [.int 6, .int 8], rest, rfl, hstack, ?_⟩
  simp only [List.mapM_cons, List.mapM_nil, wp_bind', wp_pure']
  have eS : ((T.setTop g).setVm vm₁).setTop { g with stack := rest } = (T.setVm vm₁).setTop { g with stack := rest } := by
    show ((T.setVm vm₁).setTop g).setTop _ = _
    rw [State.setTop_setTop]
  rw [eS]
  refine mu_make (S := (T.setVm vm₁).setTop { g with stack := rest }) hkA₁ hkindA₁ l6 b6 (by show T.heap.size < _; omega) (by show T.slotsUsed + 6 ≤ _; omega) (fun a9 => ?_)
  refine wq _ _ _ _ (fun dd' acts' => ?_)
  simp only [wp_bind', W.mark, W.pushRef, State.topJava?_setTop' _ X'.here.top, Option.some.injEq, exists_eq_left', State.setTop_setTop, State.heap_setTop]
  intro acts
  simp [jvm, X'.here.top]
  exact a1
end MU
