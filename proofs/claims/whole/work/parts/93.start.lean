/-! what the start gives: classes, words, strings (wip/whole/gen/mk93.py) -/
theorem sb_K {s : State} {a : Array Value} (hg : ∀ w ∈ lw_g, w.before a s = true) : ∃ D : va_G, va_K D cl7 [] s := by
  obtain ⟨c0, i0, k0⟩ := u_known hg cf0.1 (hg _ is_X0)
  obtain ⟨c1, i1, k1⟩ := u_known hg cf1.1 (hg _ is_X1)
  obtain ⟨c2, i2, k2⟩ := u_known hg cf2.1 (hg _ is_X2)
  obtain ⟨c3, i3, k3⟩ := u_known hg cf3.1 (hg _ is_X3)
  obtain ⟨c4, i4, k4⟩ := u_known hg cf4.1 (hg _ is_X4)
  obtain ⟨c5, i5, k5⟩ := u_known hg cf5.1 (hg _ is_X5)
  obtain ⟨c6, i6, k6⟩ := u_known hg cf6.1 (hg _ is_X6)
  refine ⟨(fun c => [c0, c1, c2, c3, c4, c5, c6].getD c 0, fun c => [i0, i1, i2, i3, i4, i5, i6].getD c (fun _ => 0)), fun c q hq => ?_, fun k q hq => by cases hq⟩
  match c, hq with
  | 0, hq => cases hq; exact k0
  | 1, hq => cases hq; exact k1
  | 2, hq => cases hq; exact k2
  | 3, hq => cases hq; exact k3
  | 4, hq => cases hq; exact k4
  | 5, hq => cases hq; exact k5
  | 6, hq => cases hq; exact k6
  | c + 7, hq => cases hq
theorem sb_g {s : State} {a : Array Value} (h : ∀ w ∈ lw_tbl, w.before a s = true) : ∀ w ∈ lw_g, w.before a s = true := fun w hw => h w (List.mem_filter.mp hw).1
theorem sb_N {s : State} {a : Array Value} (h : ∀ w ∈ lw_tbl, w.before a s = true) : NW2 s := by
  refine ⟨fun w hw => ?_, va_AO.of (h _ (List.mem_of_getElem? (i := 141) (by decide +kernel))), ?_⟩
  · obtain ⟨h1, h2⟩ := List.mem_filter.mp hw
    have h3 := h w h1
    cases w <;> first | exact va_Nw.of rfl h3 | cases h2
  · obtain ⟨comp, c, k, g1, -, g2, g3, g4⟩ := arrayOverA_spec (t := .long) (h (Cond.arrayOver (.array .long)) (List.mem_of_getElem? (i := 186) (by decide +kernel)))
    exact ⟨comp, c, k, g1, g2, g3, g4⟩
abbrev sb_T (i : Nat) : Term := .string "OutageScreen$Script" (txtS.getD i (0, "")).1
abbrev sb_F (i : Nat) : Term := .field (sb_T i) "java/lang/String" "value" "[B"
abbrev sb_L : List Cond := flatC (Jvm.Cond.and given_1 narrow_1)
theorem sb_1 : ∀ i, i < 8 → Cond.exactly (sb_T i) "java/lang/String" ∈ sb_L := by decide +kernel
theorem sb_2 : ∀ i, i < 8 → Cond.eq (.field (sb_T i) "java/lang/String" "coder" "B") (.int 0) ∈ sb_L := by decide +kernel
theorem sb_3 : ∀ i, i < 8 → Cond.arrayOf (sb_F i) .byte ∈ sb_L := by decide +kernel
theorem sb_4 : ∀ i, i < 8 → Cond.eq (.length (sb_F i)) (.int (Int32.ofNat (lenS.getD i 0))) ∈ sb_L := by decide +kernel
theorem sb_5 : ∀ i, i < 8 → ∀ j, j < lenS.getD i 0 → Cond.eq (.elem (sb_F i) (.int (Int32.ofNat j))) (.int ((bytS.getD i []).getD j 0)) ∈ sb_L := by decide +kernel
theorem sb_6 : ∀ i, i < 8 → ∀ j, j < 8 → i ≠ j → (Cond.not (Cond.eq (sb_T i) (sb_T j)) ∈ sb_L ∨ Cond.not (Cond.eq (sb_T j) (sb_T i)) ∈ sb_L) := by decide +kernel
theorem sb_7 : Cond.eq (.static "java/lang/String" "COMPACT_STRINGS" "Z") (.int 1) ∈ sb_L := by decide +kernel
theorem sb_8 : Cond.isRef (.static "jdk/internal/util/Preconditions" "SIOOBE_FORMATTER" "Ljava/util/function/BiFunction;") ∈ sb_L := by decide +kernel
theorem sb_9 : ∀ i, i < 8 → Cond.stringRef "OutageScreen$Script" (txtS.getD i (0, "")).1 (txtS.getD i (0, "")).2 ∈ lw_tbl := fun i hi => by
  match i, hi with
  | 0, _ => exact (List.mem_of_getElem? (i := 644) (by decide +kernel))
  | 1, _ => exact (List.mem_of_getElem? (i := 645) (by decide +kernel))
  | 2, _ => exact (List.mem_of_getElem? (i := 646) (by decide +kernel))
  | 3, _ => exact (List.mem_of_getElem? (i := 647) (by decide +kernel))
  | 4, _ => exact (List.mem_of_getElem? (i := 648) (by decide +kernel))
  | 5, _ => exact (List.mem_of_getElem? (i := 649) (by decide +kernel))
  | 6, _ => exact (List.mem_of_getElem? (i := 650) (by decide +kernel))
  | 7, _ => exact (List.mem_of_getElem? (i := 651) (by decide +kernel))
theorem sb_len : ∀ i, i < 8 → lenS.getD i 0 < 2 ^ 31 := by decide +kernel
theorem sb_S {s : State} {b : Nat} {a : Array Value} (h : ∀ w ∈ lw_tbl, w.before a s = true) (hgv : (Jvm.Cond.and given_1 narrow_1).before a s = true) :
    ∃ (adK adV : Nat → Nat) (t : Nat), vk_S 8 lenS bytS adK adV (fun q => s.heap.size ≤ q) s s.heap ∧ (∀ i, i < 8 → vk_R RX3 (txtS.getD i (0, "")).1 (txtS.getD i (0, "")).2 (adK i) s) ∧ va_Z "java/lang/String" "COMPACT_STRINGS" "Z" (.int 1) (fun q => s.heap.size ≤ q) s s.heap ∧ (va_Z "jdk/internal/util/Preconditions" "SIOOBE_FORMATTER" "Ljava/util/function/BiFunction;" .null (fun q => s.heap.size ≤ q) s s.heap ∨ va_Z "jdk/internal/util/Preconditions" "SIOOBE_FORMATTER" "Ljava/util/function/BiFunction;" (.ref t) (fun q => s.heap.size ≤ q) s s.heap) := by
  have hf := flat_of_before _ hgv
  have hA : ∀ x : Nat, x < s.heap.size → ¬ (fun q => s.heap.size ≤ q) x := fun x hx hle => absurd hx (Nat.not_lt.mpr hle)
  obtain ⟨adK, adV, h1, h2⟩ := vk_Sof (args := a) (s := s) (N := 8) (tm := sb_T) (len := lenS) (byt := bytS) (A := fun q => s.heap.size ≤ q) sb_len (fun i hi => hf _ (sb_1 i hi)) (fun i hi => hf _ (sb_2 i hi)) (fun i hi => hf _ (sb_3 i hi)) (fun i hi => hf _ (sb_4 i hi)) (fun i hi j hj => hf _ (sb_5 i hi j hj)) (fun i j hi hj hne => (sb_6 i hi j hj hne).elim (fun q => Or.inl (hf _ q)) (fun q => Or.inr (hf _ q))) hA
  have hz := va_Zof (v := .int 1) (h _ (List.mem_of_getElem? (i := 665) (by decide +kernel))) (h _ (List.mem_of_getElem? (i := 73) (by decide +kernel))) (va_eqt (hf _ sb_7)) hA
  have hr : ∀ i, i < 8 → vk_R RX3 (txtS.getD i (0, "")).1 (txtS.getD i (0, "")).2 (adK i) s := fun i hi => vk_R.of (A := a) (h _ (sb_9 i hi)) (h2 i hi)
  rcases va_Zqof (h _ (List.mem_of_getElem? (i := 681) (by decide +kernel))) (h _ (List.mem_of_getElem? (i := 75) (by decide +kernel))) (hf _ sb_8) hA with q | ⟨t, q⟩
  · exact ⟨adK, adV, 0, h1, hr, hz, Or.inl q⟩
  · exact ⟨adK, adV, t, h1, hr, hz, Or.inr q⟩
