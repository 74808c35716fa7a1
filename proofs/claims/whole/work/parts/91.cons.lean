/-! constructors: plain ones (wip/whole/gen/mk91.py) -/
theorem ac_int : Cond.arrayClass .int ∈ lw_g := (in_g (List.mem_of_getElem? (i := 132) (by decide +kernel)) rfl)
theorem ac_boolean : Cond.arrayClass .boolean ∈ lw_g := (in_g (List.mem_of_getElem? (i := 133) (by decide +kernel)) rfl)
theorem ac_long : Cond.arrayClass .long ∈ lw_g := (in_g (List.mem_of_getElem? (i := 233) (by decide +kernel)) rfl)
theorem oi_i : Cond.instanceMethod Lib.objectInit ∈ lw_g := (in_g (List.mem_of_getElem? (i := 83) (by decide +kernel)) rfl)
theorem oi_c : Cond.code Lib.objectInit ⟨#[0xb1]⟩ 1 none ∈ lw_g := (in_g (List.mem_of_getElem? (i := 84) (by decide +kernel)) rfl)
theorem oi_X0 : Cond.methodLink RX0 3 Lib.objectInit ∈ lw_g := (in_g (List.mem_of_getElem? (i := 90) (by decide +kernel)) rfl)
theorem ii_X0 : Cond.instanceMethod yX0_init ∈ lw_g := (in_g (List.mem_of_getElem? (i := 88) (by decide +kernel)) rfl)
theorem is_X0 : Cond.instantiable RX0 8 ∈ lw_g := (in_g (List.mem_of_getElem? (i := 86) (by decide +kernel)) rfl)
theorem in_X0 : Cond.initialized RX0 ∈ lw_g := (in_g (List.mem_of_getElem? (i := 66) (by decide +kernel)) rfl)
theorem oi_X1 : Cond.methodLink RX1 3 Lib.objectInit ∈ lw_g := (in_g (List.mem_of_getElem? (i := 139) (by decide +kernel)) rfl)
theorem ii_X1 : Cond.instanceMethod yX1_init ∈ lw_g := (in_g (List.mem_of_getElem? (i := 137) (by decide +kernel)) rfl)
theorem is_X1 : Cond.instantiable RX1 3 ∈ lw_g := (in_g (List.mem_of_getElem? (i := 135) (by decide +kernel)) rfl)
theorem in_X1 : Cond.initialized RX1 ∈ lw_g := (in_g (List.mem_of_getElem? (i := 67) (by decide +kernel)) rfl)
theorem oi_X2 : Cond.methodLink RX2 3 Lib.objectInit ∈ lw_g := (in_g (List.mem_of_getElem? (i := 239) (by decide +kernel)) rfl)
theorem ii_X2 : Cond.instanceMethod yX2_init ∈ lw_g := (in_g (List.mem_of_getElem? (i := 237) (by decide +kernel)) rfl)
theorem is_X2 : Cond.instantiable RX2 5 ∈ lw_g := (in_g (List.mem_of_getElem? (i := 235) (by decide +kernel)) rfl)
theorem in_X2 : Cond.initialized RX2 ∈ lw_g := (in_g (List.mem_of_getElem? (i := 70) (by decide +kernel)) rfl)
theorem oi_X3 : Cond.methodLink RX3 3 Lib.objectInit ∈ lw_g := (in_g (List.mem_of_getElem? (i := 159) (by decide +kernel)) rfl)
theorem ii_X3 : Cond.instanceMethod yX3_init ∈ lw_g := (in_g (List.mem_of_getElem? (i := 157) (by decide +kernel)) rfl)
theorem is_X3 : Cond.instantiable RX3 5 ∈ lw_g := (in_g (List.mem_of_getElem? (i := 155) (by decide +kernel)) rfl)
theorem in_X3 : Cond.initialized RX3 ∈ lw_g := (in_g (List.mem_of_getElem? (i := 68) (by decide +kernel)) rfl)
theorem oi_X4 : Cond.methodLink RX4 3 Lib.objectInit ∈ lw_g := (in_g (List.mem_of_getElem? (i := 184) (by decide +kernel)) rfl)
theorem ii_X4 : Cond.instanceMethod yX4_init ∈ lw_g := (in_g (List.mem_of_getElem? (i := 182) (by decide +kernel)) rfl)
theorem is_X4 : Cond.instantiable RX4 12 ∈ lw_g := (in_g (List.mem_of_getElem? (i := 180) (by decide +kernel)) rfl)
theorem in_X4 : Cond.initialized RX4 ∈ lw_g := (in_g (List.mem_of_getElem? (i := 69) (by decide +kernel)) rfl)
theorem oi_X5 : Cond.methodLink RX5 1 Lib.objectInit ∈ lw_g := (in_g (List.mem_of_getElem? (i := 82) (by decide +kernel)) rfl)
theorem ii_X5 : Cond.instanceMethod yX5_init ∈ lw_g := (in_g (List.mem_of_getElem? (i := 80) (by decide +kernel)) rfl)
theorem is_X5 : Cond.instantiable RX5 8 ∈ lw_g := (in_g (List.mem_of_getElem? (i := 78) (by decide +kernel)) rfl)
theorem in_X5 : Cond.initialized RX5 ∈ lw_g := (in_g (List.mem_of_getElem? (i := 65) (by decide +kernel)) rfl)
theorem oi_X6 : Cond.methodLink RX6 1 Lib.objectInit ∈ lw_g := (in_g (List.mem_of_getElem? (i := 763) (by decide +kernel)) rfl)
theorem ii_X6 : Cond.instanceMethod yX6_init ∈ lw_g := (in_g (List.mem_of_getElem? (i := 761) (by decide +kernel)) rfl)
theorem is_X6 : Cond.instantiable RX6 28 ∈ lw_g := (in_g (List.mem_of_getElem? (i := 759) (by decide +kernel)) rfl)
theorem in_X6 : Cond.initialized RX6 ∈ lw_g := (in_g (List.mem_of_getElem? (i := 71) (by decide +kernel)) rfl)
section RY3
variable {Γ : Cy} {own : String} {cc : ByteArray} {nL fr lo NC NS pc nc ns : Nat} {L : List (Nat × Value)} {st : List Value} {wa : va_W} {ta : Tys}
theorem k_wst (G : OKc Γ own cc nL fr lo NC NS) {c : ClassId} {q : Nat} {f f2 : Nat → Int32} {i x : Int32} (hin : ib i 64 = true) (hd : decode cc pc = .ok (.iastore, 1)) (hf : upd f i.toNatClampNeg x = f2) (kk : YW Γ (pc + 1) L st (wa ++ [(q, .inl (c, 64, .inl f2))]) (ta ++ [(c, .int)]) nc ns) : YW Γ pc L (.int x :: .int i :: .ref q :: st) (wa ++ [(q, .inl (c, 64, .inl f))]) (ta ++ [(c, .int)]) nc ns := by
  subst hf
  refine k_iast G wa.length ta.length (by rw [List.getElem?_append_right (Nat.le_refl _), Nat.sub_self]; rfl) (by rw [List.getElem?_append_right (Nat.le_refl _), Nat.sub_self]; rfl) hin hd _ ?_ kk
  rw [List.set_append_right _ _ (Nat.le_refl _), Nat.sub_self]
  rfl
end RY3
def wdF : Nat → (Nat → Int32)
  | 0 => fun _ => 0
  | k + 1 => upd (wdF k) k (wdT k)
def GrW (q : Nat → Nat) (c : Nat → ClassId) : va_W := [(q 0, .inr (0, [.ref (q 1), .ref (q 2), .ref (q 3), .ref (q 4), .ref (q 5), .ref (q 6), .int 4, .int 0])), (q 1, .inl (c 1, 6, .inl (fun _ => 0))), (q 2, .inl (c 2, 10, .inl (fun _ => 0))), (q 3, .inl (c 3, 10, .inl (fun _ => 0))), (q 4, .inl (c 4, 10, .inl (fun _ => 0))), (q 5, .inl (c 5, 10, .inl (fun _ => 0))), (q 6, .inl (c 6, 10, .inl (fun _ => 0)))]
def GrT (c : Nat → ClassId) : Tys := [(c 1, .int), (c 2, .int), (c 3, .int), (c 4, .int), (c 5, .int), (c 6, .boolean)]
def GrP (h0 : Nat) : MkP := fun w tys => ∃ (q : Nat → Nat) (c : Nat → ClassId), q 0 = h0 ∧ w = GrW q c ∧ tys = GrT c
set_option maxRecDepth 100000 in
set_option maxHeartbeats 4000000 in
theorem c_X0_init : Mk (yX0_init, cX0_init, 1, none, 1, 20) 0 [.null, .null, .null, .null, .null, .null, .int 0, .int 0] [] 6 56 GrP := by
  refine mk_of (by decide) rfl (fun _ => Nat.le_of_ble_eq_true rfl) (fun Γ h0 G hI hR => ?_)
  have G : OKc Γ RX0 cX0_init 1 1 20 6 56 := G
  refine k_aload G dX0_init_0 rfl 0 rfl ?_
  refine k_oi G oi_X0 oi_i oi_c dX0_init_1 (by decide) (Nat.le_of_ble_eq_true rfl) ?_
  refine k_aload G dX0_init_4 rfl 0 rfl ?_
  refine k_bip (v := 6) G dX0_init_5 rfl ?_
  refine k_newa G .int rfl ac_int 6 (6, .inl (fun _ => 0)) (fun _ => rfl) (by decide) rfl (by decide) (Nat.le_of_ble_eq_true rfl) (Nat.le_of_ble_eq_true rfl) dX0_init_7 (fun q1 c1 => ?_)
  show YW Γ 9 [(0, .ref h0)] [.ref q1, .ref h0] [(h0, .inr (0, [.null, .null, .null, .null, .null, .null, .int 0, .int 0])), (q1, .inl (c1, 6, .inl (fun _ => 0)))] [(c1, .int)] 1 6
  refine k_putF G hI 0 rfl rfl 0 (by decide) (in_g (List.mem_of_getElem? (i := 91) (by decide +kernel)) rfl) rfl rfl (ty := .array .int) (by decide +kernel) rfl rfl (Nat.le_of_ble_eq_true rfl) dX0_init_9 [(h0, .inr (0, [.ref q1, .null, .null, .null, .null, .null, .int 0, .int 0])), (q1, .inl (c1, 6, .inl (fun _ => 0)))] rfl ?_
  refine k_aload G dX0_init_12 rfl 0 rfl ?_
  refine k_bip (v := 10) G dX0_init_13 rfl ?_
  refine k_newa G .int rfl ac_int 10 (10, .inl (fun _ => 0)) (fun _ => rfl) (by decide) rfl (by decide) (Nat.le_of_ble_eq_true rfl) (Nat.le_of_ble_eq_true rfl) dX0_init_15 (fun q2 c2 => ?_)
  show YW Γ 17 [(0, .ref h0)] [.ref q2, .ref h0] [(h0, .inr (0, [.ref q1, .null, .null, .null, .null, .null, .int 0, .int 0])), (q1, .inl (c1, 6, .inl (fun _ => 0))), (q2, .inl (c2, 10, .inl (fun _ => 0)))] [(c1, .int), (c2, .int)] 2 16
  refine k_putF G hI 0 rfl rfl 1 (by decide) (in_g (List.mem_of_getElem? (i := 94) (by decide +kernel)) rfl) rfl rfl (ty := .array .int) (by decide +kernel) rfl rfl (Nat.le_of_ble_eq_true rfl) dX0_init_17 [(h0, .inr (0, [.ref q1, .ref q2, .null, .null, .null, .null, .int 0, .int 0])), (q1, .inl (c1, 6, .inl (fun _ => 0))), (q2, .inl (c2, 10, .inl (fun _ => 0)))] rfl ?_
  refine k_aload G dX0_init_20 rfl 0 rfl ?_
  refine k_bip (v := 10) G dX0_init_21 rfl ?_
  refine k_newa G .int rfl ac_int 10 (10, .inl (fun _ => 0)) (fun _ => rfl) (by decide) rfl (by decide) (Nat.le_of_ble_eq_true rfl) (Nat.le_of_ble_eq_true rfl) dX0_init_23 (fun q3 c3 => ?_)
  show YW Γ 25 [(0, .ref h0)] [.ref q3, .ref h0] [(h0, .inr (0, [.ref q1, .ref q2, .null, .null, .null, .null, .int 0, .int 0])), (q1, .inl (c1, 6, .inl (fun _ => 0))), (q2, .inl (c2, 10, .inl (fun _ => 0))), (q3, .inl (c3, 10, .inl (fun _ => 0)))] [(c1, .int), (c2, .int), (c3, .int)] 3 26
  refine k_putF G hI 0 rfl rfl 2 (by decide) (in_g (List.mem_of_getElem? (i := 97) (by decide +kernel)) rfl) rfl rfl (ty := .array .int) (by decide +kernel) rfl rfl (Nat.le_of_ble_eq_true rfl) dX0_init_25 [(h0, .inr (0, [.ref q1, .ref q2, .ref q3, .null, .null, .null, .int 0, .int 0])), (q1, .inl (c1, 6, .inl (fun _ => 0))), (q2, .inl (c2, 10, .inl (fun _ => 0))), (q3, .inl (c3, 10, .inl (fun _ => 0)))] rfl ?_
  refine k_aload G dX0_init_28 rfl 0 rfl ?_
  refine k_bip (v := 10) G dX0_init_29 rfl ?_
  refine k_newa G .int rfl ac_int 10 (10, .inl (fun _ => 0)) (fun _ => rfl) (by decide) rfl (by decide) (Nat.le_of_ble_eq_true rfl) (Nat.le_of_ble_eq_true rfl) dX0_init_31 (fun q4 c4 => ?_)
  show YW Γ 33 [(0, .ref h0)] [.ref q4, .ref h0] [(h0, .inr (0, [.ref q1, .ref q2, .ref q3, .null, .null, .null, .int 0, .int 0])), (q1, .inl (c1, 6, .inl (fun _ => 0))), (q2, .inl (c2, 10, .inl (fun _ => 0))), (q3, .inl (c3, 10, .inl (fun _ => 0))), (q4, .inl (c4, 10, .inl (fun _ => 0)))] [(c1, .int), (c2, .int), (c3, .int), (c4, .int)] 4 36
  refine k_putF G hI 0 rfl rfl 3 (by decide) (in_g (List.mem_of_getElem? (i := 100) (by decide +kernel)) rfl) rfl rfl (ty := .array .int) (by decide +kernel) rfl rfl (Nat.le_of_ble_eq_true rfl) dX0_init_33 [(h0, .inr (0, [.ref q1, .ref q2, .ref q3, .ref q4, .null, .null, .int 0, .int 0])), (q1, .inl (c1, 6, .inl (fun _ => 0))), (q2, .inl (c2, 10, .inl (fun _ => 0))), (q3, .inl (c3, 10, .inl (fun _ => 0))), (q4, .inl (c4, 10, .inl (fun _ => 0)))] rfl ?_
  refine k_aload G dX0_init_36 rfl 0 rfl ?_
  refine k_bip (v := 10) G dX0_init_37 rfl ?_
  refine k_newa G .int rfl ac_int 10 (10, .inl (fun _ => 0)) (fun _ => rfl) (by decide) rfl (by decide) (Nat.le_of_ble_eq_true rfl) (Nat.le_of_ble_eq_true rfl) dX0_init_39 (fun q5 c5 => ?_)
  show YW Γ 41 [(0, .ref h0)] [.ref q5, .ref h0] [(h0, .inr (0, [.ref q1, .ref q2, .ref q3, .ref q4, .null, .null, .int 0, .int 0])), (q1, .inl (c1, 6, .inl (fun _ => 0))), (q2, .inl (c2, 10, .inl (fun _ => 0))), (q3, .inl (c3, 10, .inl (fun _ => 0))), (q4, .inl (c4, 10, .inl (fun _ => 0))), (q5, .inl (c5, 10, .inl (fun _ => 0)))] [(c1, .int), (c2, .int), (c3, .int), (c4, .int), (c5, .int)] 5 46
  refine k_putF G hI 0 rfl rfl 4 (by decide) (in_g (List.mem_of_getElem? (i := 103) (by decide +kernel)) rfl) rfl rfl (ty := .array .int) (by decide +kernel) rfl rfl (Nat.le_of_ble_eq_true rfl) dX0_init_41 [(h0, .inr (0, [.ref q1, .ref q2, .ref q3, .ref q4, .ref q5, .null, .int 0, .int 0])), (q1, .inl (c1, 6, .inl (fun _ => 0))), (q2, .inl (c2, 10, .inl (fun _ => 0))), (q3, .inl (c3, 10, .inl (fun _ => 0))), (q4, .inl (c4, 10, .inl (fun _ => 0))), (q5, .inl (c5, 10, .inl (fun _ => 0)))] rfl ?_
  refine k_aload G dX0_init_44 rfl 0 rfl ?_
  refine k_bip (v := 10) G dX0_init_45 rfl ?_
  refine k_newa G .boolean rfl ac_boolean 10 (10, .inl (fun _ => 0)) (fun _ => rfl) (by decide) rfl (by decide) (Nat.le_of_ble_eq_true rfl) (Nat.le_of_ble_eq_true rfl) dX0_init_47 (fun q6 c6 => ?_)
  show YW Γ 49 [(0, .ref h0)] [.ref q6, .ref h0] [(h0, .inr (0, [.ref q1, .ref q2, .ref q3, .ref q4, .ref q5, .null, .int 0, .int 0])), (q1, .inl (c1, 6, .inl (fun _ => 0))), (q2, .inl (c2, 10, .inl (fun _ => 0))), (q3, .inl (c3, 10, .inl (fun _ => 0))), (q4, .inl (c4, 10, .inl (fun _ => 0))), (q5, .inl (c5, 10, .inl (fun _ => 0))), (q6, .inl (c6, 10, .inl (fun _ => 0)))] [(c1, .int), (c2, .int), (c3, .int), (c4, .int), (c5, .int), (c6, .boolean)] 6 56
  refine k_putF G hI 0 rfl rfl 5 (by decide) (in_g (List.mem_of_getElem? (i := 106) (by decide +kernel)) rfl) rfl rfl (ty := .array .boolean) (by decide +kernel) rfl rfl (Nat.le_of_ble_eq_true rfl) dX0_init_49 [(h0, .inr (0, [.ref q1, .ref q2, .ref q3, .ref q4, .ref q5, .ref q6, .int 0, .int 0])), (q1, .inl (c1, 6, .inl (fun _ => 0))), (q2, .inl (c2, 10, .inl (fun _ => 0))), (q3, .inl (c3, 10, .inl (fun _ => 0))), (q4, .inl (c4, 10, .inl (fun _ => 0))), (q5, .inl (c5, 10, .inl (fun _ => 0))), (q6, .inl (c6, 10, .inl (fun _ => 0)))] rfl ?_
  refine k_aload G dX0_init_52 rfl 0 rfl ?_
  refine k_icst (v := 4) G dX0_init_53 rfl ?_
  refine k_put G 0 rfl rfl 6 (by decide) (in_g (List.mem_of_getElem? (i := 109) (by decide +kernel)) rfl) rfl (ty := .int) (by decide +kernel) rfl rfl (Nat.le_of_ble_eq_true rfl) dX0_init_54 [(h0, .inr (0, [.ref q1, .ref q2, .ref q3, .ref q4, .ref q5, .ref q6, .int 4, .int 0])), (q1, .inl (c1, 6, .inl (fun _ => 0))), (q2, .inl (c2, 10, .inl (fun _ => 0))), (q3, .inl (c3, 10, .inl (fun _ => 0))), (q4, .inl (c4, 10, .inl (fun _ => 0))), (q5, .inl (c5, 10, .inl (fun _ => 0))), (q6, .inl (c6, 10, .inl (fun _ => 0)))] rfl ?_
  exact k_vret G hR ⟨fun k => [h0, q1, q2, q3, q4, q5, q6].getD k 0, fun k => [0, c1, c2, c3, c4, c5, c6].getD k 0, rfl, rfl, rfl⟩ dX0_init_57
def ScW (q : Nat → Nat) (c : Nat → ClassId) : va_W := [(q 0, .inr (3, [.ref (q 1), .ref (q 2), .int 0, .int 0, .int 0])), (q 1, .inl (c 1, 120, .inl (fun _ => 0))), (q 2, .inl (c 2, 4, .inl (fun _ => 0)))]
def ScT (c : Nat → ClassId) : Tys := [(c 1, .int), (c 2, .int)]
def ScP (h0 : Nat) : MkP := fun w tys => ∃ (q : Nat → Nat) (c : Nat → ClassId), q 0 = h0 ∧ w = ScW q c ∧ tys = ScT c
set_option maxRecDepth 100000 in
set_option maxHeartbeats 4000000 in
theorem c_X3_init : Mk (yX3_init, cX3_init, 1, none, 1, 20) 3 [.null, .null, .int 0, .int 0, .int 0] [] 2 124 ScP := by
  refine mk_of (by decide) rfl (fun _ => Nat.le_of_ble_eq_true rfl) (fun Γ h0 G hI hR => ?_)
  have G : OKc Γ RX3 cX3_init 1 1 20 2 124 := G
  refine k_aload G dX3_init_0 rfl 0 rfl ?_
  refine k_oi G oi_X3 oi_i oi_c dX3_init_1 (by decide) (Nat.le_of_ble_eq_true rfl) ?_
  refine k_aload G dX3_init_4 rfl 0 rfl ?_
  refine k_bip (v := 120) G dX3_init_5 rfl ?_
  refine k_newa G .int rfl ac_int 120 (120, .inl (fun _ => 0)) (fun _ => rfl) (by decide) rfl (by decide) (Nat.le_of_ble_eq_true rfl) (Nat.le_of_ble_eq_true rfl) dX3_init_7 (fun q1 c1 => ?_)
  show YW Γ 9 [(0, .ref h0)] [.ref q1, .ref h0] [(h0, .inr (3, [.null, .null, .int 0, .int 0, .int 0])), (q1, .inl (c1, 120, .inl (fun _ => 0)))] [(c1, .int)] 1 120
  refine k_putF G hI 0 rfl rfl 0 (by decide) (in_g (List.mem_of_getElem? (i := 160) (by decide +kernel)) rfl) rfl rfl (ty := .array .int) (by decide +kernel) rfl rfl (Nat.le_of_ble_eq_true rfl) dX3_init_9 [(h0, .inr (3, [.ref q1, .null, .int 0, .int 0, .int 0])), (q1, .inl (c1, 120, .inl (fun _ => 0)))] rfl ?_
  refine k_aload G dX3_init_12 rfl 0 rfl ?_
  refine k_icst (v := 4) G dX3_init_13 rfl ?_
  refine k_newa G .int rfl ac_int 4 (4, .inl (fun _ => 0)) (fun _ => rfl) (by decide) rfl (by decide) (Nat.le_of_ble_eq_true rfl) (Nat.le_of_ble_eq_true rfl) dX3_init_14 (fun q2 c2 => ?_)
  show YW Γ 16 [(0, .ref h0)] [.ref q2, .ref h0] [(h0, .inr (3, [.ref q1, .null, .int 0, .int 0, .int 0])), (q1, .inl (c1, 120, .inl (fun _ => 0))), (q2, .inl (c2, 4, .inl (fun _ => 0)))] [(c1, .int), (c2, .int)] 2 124
  refine k_putF G hI 0 rfl rfl 1 (by decide) (in_g (List.mem_of_getElem? (i := 161) (by decide +kernel)) rfl) rfl rfl (ty := .array .int) (by decide +kernel) rfl rfl (Nat.le_of_ble_eq_true rfl) dX3_init_16 [(h0, .inr (3, [.ref q1, .ref q2, .int 0, .int 0, .int 0])), (q1, .inl (c1, 120, .inl (fun _ => 0))), (q2, .inl (c2, 4, .inl (fun _ => 0)))] rfl ?_
  exact k_vret G hR ⟨fun k => [h0, q1, q2].getD k 0, fun k => [0, c1, c2].getD k 0, rfl, rfl, rfl⟩ dX3_init_19
def RaW (q : Nat → Nat) (c : Nat → ClassId) : va_W := [(q 0, .inr (2, [.ref (q 1), .ref (q 2), .ref (q 3), .ref (q 4), .int 0])), (q 1, .inl (c 1, 45, .inl (fun _ => 0))), (q 2, .inl (c 2, 45, .inl (fun _ => 0))), (q 3, .inl (c 3, 45, .inr (.inl (fun _ => 0)))), (q 4, .inl (c 4, 45, .inr (.inl (fun _ => 0))))]
def RaT (c : Nat → ClassId) : Tys := [(c 1, .int), (c 2, .int), (c 3, .long), (c 4, .long)]
def RaP (h0 : Nat) : MkP := fun w tys => ∃ (q : Nat → Nat) (c : Nat → ClassId), q 0 = h0 ∧ w = RaW q c ∧ tys = RaT c
set_option maxRecDepth 100000 in
set_option maxHeartbeats 4000000 in
theorem c_X2_init : Mk (yX2_init, cX2_init, 1, none, 1, 20) 2 [.null, .null, .null, .null, .int 0] [] 4 180 RaP := by
  refine mk_of (by decide) rfl (fun _ => Nat.le_of_ble_eq_true rfl) (fun Γ h0 G hI hR => ?_)
  have G : OKc Γ RX2 cX2_init 1 1 20 4 180 := G
  refine k_aload G dX2_init_0 rfl 0 rfl ?_
  refine k_oi G oi_X2 oi_i oi_c dX2_init_1 (by decide) (Nat.le_of_ble_eq_true rfl) ?_
  refine k_aload G dX2_init_4 rfl 0 rfl ?_
  refine k_bip (v := 45) G dX2_init_5 rfl ?_
  refine k_newa G .int rfl ac_int 45 (45, .inl (fun _ => 0)) (fun _ => rfl) (by decide) rfl (by decide) (Nat.le_of_ble_eq_true rfl) (Nat.le_of_ble_eq_true rfl) dX2_init_7 (fun q1 c1 => ?_)
  show YW Γ 9 [(0, .ref h0)] [.ref q1, .ref h0] [(h0, .inr (2, [.null, .null, .null, .null, .int 0])), (q1, .inl (c1, 45, .inl (fun _ => 0)))] [(c1, .int)] 1 45
  refine k_putF G hI 0 rfl rfl 0 (by decide) (in_g (List.mem_of_getElem? (i := 240) (by decide +kernel)) rfl) rfl rfl (ty := .array .int) (by decide +kernel) rfl rfl (Nat.le_of_ble_eq_true rfl) dX2_init_9 [(h0, .inr (2, [.ref q1, .null, .null, .null, .int 0])), (q1, .inl (c1, 45, .inl (fun _ => 0)))] rfl ?_
  refine k_aload G dX2_init_12 rfl 0 rfl ?_
  refine k_bip (v := 45) G dX2_init_13 rfl ?_
  refine k_newa G .int rfl ac_int 45 (45, .inl (fun _ => 0)) (fun _ => rfl) (by decide) rfl (by decide) (Nat.le_of_ble_eq_true rfl) (Nat.le_of_ble_eq_true rfl) dX2_init_15 (fun q2 c2 => ?_)
  show YW Γ 17 [(0, .ref h0)] [.ref q2, .ref h0] [(h0, .inr (2, [.ref q1, .null, .null, .null, .int 0])), (q1, .inl (c1, 45, .inl (fun _ => 0))), (q2, .inl (c2, 45, .inl (fun _ => 0)))] [(c1, .int), (c2, .int)] 2 90
  refine k_putF G hI 0 rfl rfl 1 (by decide) (in_g (List.mem_of_getElem? (i := 242) (by decide +kernel)) rfl) rfl rfl (ty := .array .int) (by decide +kernel) rfl rfl (Nat.le_of_ble_eq_true rfl) dX2_init_17 [(h0, .inr (2, [.ref q1, .ref q2, .null, .null, .int 0])), (q1, .inl (c1, 45, .inl (fun _ => 0))), (q2, .inl (c2, 45, .inl (fun _ => 0)))] rfl ?_
  refine k_aload G dX2_init_20 rfl 0 rfl ?_
  refine k_bip (v := 45) G dX2_init_21 rfl ?_
  refine k_newa G .long rfl ac_long 45 (45, .inr (.inl (fun _ => 0))) (fun _ => rfl) (by decide) rfl (by decide) (Nat.le_of_ble_eq_true rfl) (Nat.le_of_ble_eq_true rfl) dX2_init_23 (fun q3 c3 => ?_)
  show YW Γ 25 [(0, .ref h0)] [.ref q3, .ref h0] [(h0, .inr (2, [.ref q1, .ref q2, .null, .null, .int 0])), (q1, .inl (c1, 45, .inl (fun _ => 0))), (q2, .inl (c2, 45, .inl (fun _ => 0))), (q3, .inl (c3, 45, .inr (.inl (fun _ => 0))))] [(c1, .int), (c2, .int), (c3, .long)] 3 135
  refine k_putF G hI 0 rfl rfl 2 (by decide) (in_g (List.mem_of_getElem? (i := 244) (by decide +kernel)) rfl) rfl rfl (ty := .array .long) (by decide +kernel) rfl rfl (Nat.le_of_ble_eq_true rfl) dX2_init_25 [(h0, .inr (2, [.ref q1, .ref q2, .ref q3, .null, .int 0])), (q1, .inl (c1, 45, .inl (fun _ => 0))), (q2, .inl (c2, 45, .inl (fun _ => 0))), (q3, .inl (c3, 45, .inr (.inl (fun _ => 0))))] rfl ?_
  refine k_aload G dX2_init_28 rfl 0 rfl ?_
  refine k_bip (v := 45) G dX2_init_29 rfl ?_
  refine k_newa G .long rfl ac_long 45 (45, .inr (.inl (fun _ => 0))) (fun _ => rfl) (by decide) rfl (by decide) (Nat.le_of_ble_eq_true rfl) (Nat.le_of_ble_eq_true rfl) dX2_init_31 (fun q4 c4 => ?_)
  show YW Γ 33 [(0, .ref h0)] [.ref q4, .ref h0] [(h0, .inr (2, [.ref q1, .ref q2, .ref q3, .null, .int 0])), (q1, .inl (c1, 45, .inl (fun _ => 0))), (q2, .inl (c2, 45, .inl (fun _ => 0))), (q3, .inl (c3, 45, .inr (.inl (fun _ => 0)))), (q4, .inl (c4, 45, .inr (.inl (fun _ => 0))))] [(c1, .int), (c2, .int), (c3, .long), (c4, .long)] 4 180
  refine k_putF G hI 0 rfl rfl 3 (by decide) (in_g (List.mem_of_getElem? (i := 246) (by decide +kernel)) rfl) rfl rfl (ty := .array .long) (by decide +kernel) rfl rfl (Nat.le_of_ble_eq_true rfl) dX2_init_33 [(h0, .inr (2, [.ref q1, .ref q2, .ref q3, .ref q4, .int 0])), (q1, .inl (c1, 45, .inl (fun _ => 0))), (q2, .inl (c2, 45, .inl (fun _ => 0))), (q3, .inl (c3, 45, .inr (.inl (fun _ => 0)))), (q4, .inl (c4, 45, .inr (.inl (fun _ => 0))))] rfl ?_
  exact k_vret G hR ⟨fun k => [h0, q1, q2, q3, q4].getD k 0, fun k => [0, c1, c2, c3, c4].getD k 0, rfl, rfl, rfl⟩ dX2_init_36
def MoW (q : Nat → Nat) (c : Nat → ClassId) : va_W := [(q 0, .inr (6, [.ref (q 1), .ref (q 2), .ref (q 3), .int 0, .ref (q 4), .ref (q 5), .int 0, .int 0, .ref (q 6), .ref (q 7), .ref (q 8), .ref (q 9), .ref (q 10), .ref (q 11), .int 0, .int 0, .long 0, .long 0, .int 0, .ref (q 12), .ref (q 13), .ref (q 14), .ref (q 15), .int 0, .int 0, .ref (q 16), .ref (q 17), .ref (q 18)])), (q 1, .inl (c 1, 58, .inl (upd (fun _ => 0) 0 4))), (q 2, .inl (c 2, 464, .inl (fun _ => 0))), (q 3, .inl (c 3, 58, .inl (fun _ => 0))), (q 4, .inl (c 4, 3, .inl (fun _ => 0))), (q 5, .inl (c 5, 120, .inl (fun _ => 0))), (q 6, .inl (c 6, 6, .inr (.inl (fun _ => 0)))), (q 7, .inl (c 7, 6, .inl (fun _ => 0))), (q 8, .inl (c 8, 6, .inr (.inl (fun _ => 0)))), (q 9, .inl (c 9, 6, .inr (.inl (fun _ => 0)))), (q 10, .inl (c 10, 36, .inr (.inl (fun _ => 0)))), (q 11, .inl (c 11, 6, .inl (fun _ => 0))), (q 12, .inl (c 12, 45, .inl (fun _ => 0))), (q 13, .inl (c 13, 45, .inl (fun _ => 0))), (q 14, .inl (c 14, 45, .inr (.inl (fun _ => 0)))), (q 15, .inl (c 15, 45, .inr (.inl (fun _ => 0)))), (q 16, .inl (c 16, 10, .inr (.inl (fun _ => 0)))), (q 17, .inl (c 17, 64, .inl (wdF 64))), (q 18, .inl (c 18, 4, .inl (fun _ => 0)))]
def MoT (c : Nat → ClassId) : Tys := [(c 1, .int), (c 2, .int), (c 3, .int), (c 4, .int), (c 5, .int), (c 6, .long), (c 7, .int), (c 8, .long), (c 9, .long), (c 10, .long), (c 11, .int), (c 12, .int), (c 13, .int), (c 14, .long), (c 15, .long), (c 16, .long), (c 17, .int), (c 18, .int)]
def MoP (h0 : Nat) : MkP := fun w tys => ∃ (q : Nat → Nat) (c : Nat → ClassId), q 0 = h0 ∧ w = MoW q c ∧ tys = MoT c
theorem wd_0 : upd (wdF 0) (Int32.toNatClampNeg 0) 98 = wdF 1 := rfl
theorem wd_1 : upd (wdF 1) (Int32.toNatClampNeg 1) 117 = wdF 2 := rfl
theorem wd_2 : upd (wdF 2) (Int32.toNatClampNeg 2) 115 = wdF 3 := rfl
theorem wd_3 : upd (wdF 3) (Int32.toNatClampNeg 3) 0 = wdF 4 := rfl
theorem wd_4 : upd (wdF 4) (Int32.toNatClampNeg 4) 0 = wdF 5 := rfl
theorem wd_5 : upd (wdF 5) (Int32.toNatClampNeg 5) 0 = wdF 6 := rfl
theorem wd_6 : upd (wdF 6) (Int32.toNatClampNeg 6) 0 = wdF 7 := rfl
theorem wd_7 : upd (wdF 7) (Int32.toNatClampNeg 7) 0 = wdF 8 := rfl
theorem wd_8 : upd (wdF 8) (Int32.toNatClampNeg 8) 108 = wdF 9 := rfl
theorem wd_9 : upd (wdF 9) (Int32.toNatClampNeg 9) 105 = wdF 10 := rfl
theorem wd_10 : upd (wdF 10) (Int32.toNatClampNeg 10) 110 = wdF 11 := rfl
theorem wd_11 : upd (wdF 11) (Int32.toNatClampNeg 11) 101 = wdF 12 := rfl
theorem wd_12 : upd (wdF 12) (Int32.toNatClampNeg 12) 0 = wdF 13 := rfl
theorem wd_13 : upd (wdF 13) (Int32.toNatClampNeg 13) 0 = wdF 14 := rfl
theorem wd_14 : upd (wdF 14) (Int32.toNatClampNeg 14) 0 = wdF 15 := rfl
theorem wd_15 : upd (wdF 15) (Int32.toNatClampNeg 15) 0 = wdF 16 := rfl
theorem wd_16 : upd (wdF 16) (Int32.toNatClampNeg 16) 111 = wdF 17 := rfl
theorem wd_17 : upd (wdF 17) (Int32.toNatClampNeg 17) 112 = wdF 18 := rfl
theorem wd_18 : upd (wdF 18) (Int32.toNatClampNeg 18) 101 = wdF 19 := rfl
theorem wd_19 : upd (wdF 19) (Int32.toNatClampNeg 19) 110 = wdF 20 := rfl
theorem wd_20 : upd (wdF 20) (Int32.toNatClampNeg 20) 0 = wdF 21 := rfl
theorem wd_21 : upd (wdF 21) (Int32.toNatClampNeg 21) 0 = wdF 22 := rfl
theorem wd_22 : upd (wdF 22) (Int32.toNatClampNeg 22) 0 = wdF 23 := rfl
theorem wd_23 : upd (wdF 23) (Int32.toNatClampNeg 23) 0 = wdF 24 := rfl
theorem wd_24 : upd (wdF 24) (Int32.toNatClampNeg 24) 99 = wdF 25 := rfl
theorem wd_25 : upd (wdF 25) (Int32.toNatClampNeg 25) 108 = wdF 26 := rfl
theorem wd_26 : upd (wdF 26) (Int32.toNatClampNeg 26) 111 = wdF 27 := rfl
theorem wd_27 : upd (wdF 27) (Int32.toNatClampNeg 27) 115 = wdF 28 := rfl
theorem wd_28 : upd (wdF 28) (Int32.toNatClampNeg 28) 101 = wdF 29 := rfl
theorem wd_29 : upd (wdF 29) (Int32.toNatClampNeg 29) 0 = wdF 30 := rfl
theorem wd_30 : upd (wdF 30) (Int32.toNatClampNeg 30) 0 = wdF 31 := rfl
theorem wd_31 : upd (wdF 31) (Int32.toNatClampNeg 31) 0 = wdF 32 := rfl
theorem wd_32 : upd (wdF 32) (Int32.toNatClampNeg 32) 108 = wdF 33 := rfl
theorem wd_33 : upd (wdF 33) (Int32.toNatClampNeg 33) 105 = wdF 34 := rfl
theorem wd_34 : upd (wdF 34) (Int32.toNatClampNeg 34) 109 = wdF 35 := rfl
theorem wd_35 : upd (wdF 35) (Int32.toNatClampNeg 35) 105 = wdF 36 := rfl
theorem wd_36 : upd (wdF 36) (Int32.toNatClampNeg 36) 116 = wdF 37 := rfl
theorem wd_37 : upd (wdF 37) (Int32.toNatClampNeg 37) 0 = wdF 38 := rfl
theorem wd_38 : upd (wdF 38) (Int32.toNatClampNeg 38) 0 = wdF 39 := rfl
theorem wd_39 : upd (wdF 39) (Int32.toNatClampNeg 39) 0 = wdF 40 := rfl
theorem wd_40 : upd (wdF 40) (Int32.toNatClampNeg 40) 115 = wdF 41 := rfl
theorem wd_41 : upd (wdF 41) (Int32.toNatClampNeg 41) 116 = wdF 42 := rfl
theorem wd_42 : upd (wdF 42) (Int32.toNatClampNeg 42) 114 = wdF 43 := rfl
theorem wd_43 : upd (wdF 43) (Int32.toNatClampNeg 43) 101 = wdF 44 := rfl
theorem wd_44 : upd (wdF 44) (Int32.toNatClampNeg 44) 110 = wdF 45 := rfl
theorem wd_45 : upd (wdF 45) (Int32.toNatClampNeg 45) 103 = wdF 46 := rfl
theorem wd_46 : upd (wdF 46) (Int32.toNatClampNeg 46) 116 = wdF 47 := rfl
theorem wd_47 : upd (wdF 47) (Int32.toNatClampNeg 47) 104 = wdF 48 := rfl
theorem wd_48 : upd (wdF 48) (Int32.toNatClampNeg 48) 100 = wdF 49 := rfl
theorem wd_49 : upd (wdF 49) (Int32.toNatClampNeg 49) 114 = wdF 50 := rfl
theorem wd_50 : upd (wdF 50) (Int32.toNatClampNeg 50) 111 = wdF 51 := rfl
theorem wd_51 : upd (wdF 51) (Int32.toNatClampNeg 51) 112 = wdF 52 := rfl
theorem wd_52 : upd (wdF 52) (Int32.toNatClampNeg 52) 0 = wdF 53 := rfl
theorem wd_53 : upd (wdF 53) (Int32.toNatClampNeg 53) 0 = wdF 54 := rfl
theorem wd_54 : upd (wdF 54) (Int32.toNatClampNeg 54) 0 = wdF 55 := rfl
theorem wd_55 : upd (wdF 55) (Int32.toNatClampNeg 55) 0 = wdF 56 := rfl
theorem wd_56 : upd (wdF 56) (Int32.toNatClampNeg 56) 98 = wdF 57 := rfl
theorem wd_57 : upd (wdF 57) (Int32.toNatClampNeg 57) 101 = wdF 58 := rfl
theorem wd_58 : upd (wdF 58) (Int32.toNatClampNeg 58) 103 = wdF 59 := rfl
theorem wd_59 : upd (wdF 59) (Int32.toNatClampNeg 59) 105 = wdF 60 := rfl
theorem wd_60 : upd (wdF 60) (Int32.toNatClampNeg 60) 110 = wdF 61 := rfl
theorem wd_61 : upd (wdF 61) (Int32.toNatClampNeg 61) 0 = wdF 62 := rfl
theorem wd_62 : upd (wdF 62) (Int32.toNatClampNeg 62) 0 = wdF 63 := rfl
theorem wd_63 : upd (wdF 63) (Int32.toNatClampNeg 63) 0 = wdF 64 := rfl
set_option maxRecDepth 100000 in
set_option maxHeartbeats 4000000 in
theorem c_X6_init : Mk (yX6_init, cX6_init, 1, none, 1, 20) 6 [.null, .null, .null, .int 0, .null, .null, .int 0, .int 0, .null, .null, .null, .null, .null, .null, .int 0, .int 0, .long 0, .long 0, .int 0, .null, .null, .null, .null, .int 0, .int 0, .null, .null, .null] [] 18 1027 MoP := by
  refine mk_of (by decide) rfl (fun _ => Nat.le_of_ble_eq_true rfl) (fun Γ h0 G hI hR => ?_)
  have G : OKc Γ RX6 cX6_init 1 1 20 18 1027 := G
  refine k_aload G dX6_init_0 rfl 0 rfl ?_
  refine k_oi G oi_X6 oi_i oi_c dX6_init_1 (by decide) (Nat.le_of_ble_eq_true rfl) ?_
  refine k_aload G dX6_init_4 rfl 0 rfl ?_
  refine k_bip (v := 58) G dX6_init_5 rfl ?_
  refine k_newa G .int rfl ac_int 58 (58, .inl (fun _ => 0)) (fun _ => rfl) (by decide) rfl (by decide) (Nat.le_of_ble_eq_true rfl) (Nat.le_of_ble_eq_true rfl) dX6_init_7 (fun q1 c1 => ?_)
  show YW Γ 9 [(0, .ref h0)] [.ref q1, .ref h0] [(h0, .inr (6, [.null, .null, .null, .int 0, .null, .null, .int 0, .int 0, .null, .null, .null, .null, .null, .null, .int 0, .int 0, .long 0, .long 0, .int 0, .null, .null, .null, .null, .int 0, .int 0, .null, .null, .null])), (q1, .inl (c1, 58, .inl (fun _ => 0)))] [(c1, .int)] 1 58
  refine k_putF G hI 0 rfl rfl 0 (by decide) (in_g (List.mem_of_getElem? (i := 764) (by decide +kernel)) rfl) rfl rfl (ty := .array .int) (by decide +kernel) rfl rfl (Nat.le_of_ble_eq_true rfl) dX6_init_9 [(h0, .inr (6, [.ref q1, .null, .null, .int 0, .null, .null, .int 0, .int 0, .null, .null, .null, .null, .null, .null, .int 0, .int 0, .long 0, .long 0, .int 0, .null, .null, .null, .null, .int 0, .int 0, .null, .null, .null])), (q1, .inl (c1, 58, .inl (fun _ => 0)))] rfl ?_
  refine k_aload G dX6_init_12 rfl 0 rfl ?_
  refine k_sip (v := 464) G dX6_init_13 rfl ?_
  refine k_newa G .int rfl ac_int 464 (464, .inl (fun _ => 0)) (fun _ => rfl) (by decide) rfl (by decide) (Nat.le_of_ble_eq_true rfl) (Nat.le_of_ble_eq_true rfl) dX6_init_16 (fun q2 c2 => ?_)
  show YW Γ 18 [(0, .ref h0)] [.ref q2, .ref h0] [(h0, .inr (6, [.ref q1, .null, .null, .int 0, .null, .null, .int 0, .int 0, .null, .null, .null, .null, .null, .null, .int 0, .int 0, .long 0, .long 0, .int 0, .null, .null, .null, .null, .int 0, .int 0, .null, .null, .null])), (q1, .inl (c1, 58, .inl (fun _ => 0))), (q2, .inl (c2, 464, .inl (fun _ => 0)))] [(c1, .int), (c2, .int)] 2 522
  refine k_putF G hI 0 rfl rfl 1 (by decide) (in_g (List.mem_of_getElem? (i := 765) (by decide +kernel)) rfl) rfl rfl (ty := .array .int) (by decide +kernel) rfl rfl (Nat.le_of_ble_eq_true rfl) dX6_init_18 [(h0, .inr (6, [.ref q1, .ref q2, .null, .int 0, .null, .null, .int 0, .int 0, .null, .null, .null, .null, .null, .null, .int 0, .int 0, .long 0, .long 0, .int 0, .null, .null, .null, .null, .int 0, .int 0, .null, .null, .null])), (q1, .inl (c1, 58, .inl (fun _ => 0))), (q2, .inl (c2, 464, .inl (fun _ => 0)))] rfl ?_
  refine k_aload G dX6_init_21 rfl 0 rfl ?_
  refine k_bip (v := 58) G dX6_init_22 rfl ?_
  refine k_newa G .int rfl ac_int 58 (58, .inl (fun _ => 0)) (fun _ => rfl) (by decide) rfl (by decide) (Nat.le_of_ble_eq_true rfl) (Nat.le_of_ble_eq_true rfl) dX6_init_24 (fun q3 c3 => ?_)
  show YW Γ 26 [(0, .ref h0)] [.ref q3, .ref h0] [(h0, .inr (6, [.ref q1, .ref q2, .null, .int 0, .null, .null, .int 0, .int 0, .null, .null, .null, .null, .null, .null, .int 0, .int 0, .long 0, .long 0, .int 0, .null, .null, .null, .null, .int 0, .int 0, .null, .null, .null])), (q1, .inl (c1, 58, .inl (fun _ => 0))), (q2, .inl (c2, 464, .inl (fun _ => 0))), (q3, .inl (c3, 58, .inl (fun _ => 0)))] [(c1, .int), (c2, .int), (c3, .int)] 3 580
  refine k_putF G hI 0 rfl rfl 2 (by decide) (in_g (List.mem_of_getElem? (i := 766) (by decide +kernel)) rfl) rfl rfl (ty := .array .int) (by decide +kernel) rfl rfl (Nat.le_of_ble_eq_true rfl) dX6_init_26 [(h0, .inr (6, [.ref q1, .ref q2, .ref q3, .int 0, .null, .null, .int 0, .int 0, .null, .null, .null, .null, .null, .null, .int 0, .int 0, .long 0, .long 0, .int 0, .null, .null, .null, .null, .int 0, .int 0, .null, .null, .null])), (q1, .inl (c1, 58, .inl (fun _ => 0))), (q2, .inl (c2, 464, .inl (fun _ => 0))), (q3, .inl (c3, 58, .inl (fun _ => 0)))] rfl ?_
  refine k_aload G dX6_init_29 rfl 0 rfl ?_
  refine k_icst (v := 3) G dX6_init_30 rfl ?_
  refine k_newa G .int rfl ac_int 3 (3, .inl (fun _ => 0)) (fun _ => rfl) (by decide) rfl (by decide) (Nat.le_of_ble_eq_true rfl) (Nat.le_of_ble_eq_true rfl) dX6_init_31 (fun q4 c4 => ?_)
  show YW Γ 33 [(0, .ref h0)] [.ref q4, .ref h0] [(h0, .inr (6, [.ref q1, .ref q2, .ref q3, .int 0, .null, .null, .int 0, .int 0, .null, .null, .null, .null, .null, .null, .int 0, .int 0, .long 0, .long 0, .int 0, .null, .null, .null, .null, .int 0, .int 0, .null, .null, .null])), (q1, .inl (c1, 58, .inl (fun _ => 0))), (q2, .inl (c2, 464, .inl (fun _ => 0))), (q3, .inl (c3, 58, .inl (fun _ => 0))), (q4, .inl (c4, 3, .inl (fun _ => 0)))] [(c1, .int), (c2, .int), (c3, .int), (c4, .int)] 4 583
  refine k_putF G hI 0 rfl rfl 4 (by decide) (in_g (List.mem_of_getElem? (i := 768) (by decide +kernel)) rfl) rfl rfl (ty := .array .int) (by decide +kernel) rfl rfl (Nat.le_of_ble_eq_true rfl) dX6_init_33 [(h0, .inr (6, [.ref q1, .ref q2, .ref q3, .int 0, .ref q4, .null, .int 0, .int 0, .null, .null, .null, .null, .null, .null, .int 0, .int 0, .long 0, .long 0, .int 0, .null, .null, .null, .null, .int 0, .int 0, .null, .null, .null])), (q1, .inl (c1, 58, .inl (fun _ => 0))), (q2, .inl (c2, 464, .inl (fun _ => 0))), (q3, .inl (c3, 58, .inl (fun _ => 0))), (q4, .inl (c4, 3, .inl (fun _ => 0)))] rfl ?_
  refine k_aload G dX6_init_36 rfl 0 rfl ?_
  refine k_bip (v := 120) G dX6_init_37 rfl ?_
  refine k_newa G .int rfl ac_int 120 (120, .inl (fun _ => 0)) (fun _ => rfl) (by decide) rfl (by decide) (Nat.le_of_ble_eq_true rfl) (Nat.le_of_ble_eq_true rfl) dX6_init_39 (fun q5 c5 => ?_)
  show YW Γ 41 [(0, .ref h0)] [.ref q5, .ref h0] [(h0, .inr (6, [.ref q1, .ref q2, .ref q3, .int 0, .ref q4, .null, .int 0, .int 0, .null, .null, .null, .null, .null, .null, .int 0, .int 0, .long 0, .long 0, .int 0, .null, .null, .null, .null, .int 0, .int 0, .null, .null, .null])), (q1, .inl (c1, 58, .inl (fun _ => 0))), (q2, .inl (c2, 464, .inl (fun _ => 0))), (q3, .inl (c3, 58, .inl (fun _ => 0))), (q4, .inl (c4, 3, .inl (fun _ => 0))), (q5, .inl (c5, 120, .inl (fun _ => 0)))] [(c1, .int), (c2, .int), (c3, .int), (c4, .int), (c5, .int)] 5 703
  refine k_putF G hI 0 rfl rfl 5 (by decide) (in_g (List.mem_of_getElem? (i := 769) (by decide +kernel)) rfl) rfl rfl (ty := .array .int) (by decide +kernel) rfl rfl (Nat.le_of_ble_eq_true rfl) dX6_init_41 [(h0, .inr (6, [.ref q1, .ref q2, .ref q3, .int 0, .ref q4, .ref q5, .int 0, .int 0, .null, .null, .null, .null, .null, .null, .int 0, .int 0, .long 0, .long 0, .int 0, .null, .null, .null, .null, .int 0, .int 0, .null, .null, .null])), (q1, .inl (c1, 58, .inl (fun _ => 0))), (q2, .inl (c2, 464, .inl (fun _ => 0))), (q3, .inl (c3, 58, .inl (fun _ => 0))), (q4, .inl (c4, 3, .inl (fun _ => 0))), (q5, .inl (c5, 120, .inl (fun _ => 0)))] rfl ?_
  refine k_aload G dX6_init_44 rfl 0 rfl ?_
  refine k_bip (v := 6) G dX6_init_45 rfl ?_
  refine k_newa G .long rfl ac_long 6 (6, .inr (.inl (fun _ => 0))) (fun _ => rfl) (by decide) rfl (by decide) (Nat.le_of_ble_eq_true rfl) (Nat.le_of_ble_eq_true rfl) dX6_init_47 (fun q6 c6 => ?_)
  show YW Γ 49 [(0, .ref h0)] [.ref q6, .ref h0] [(h0, .inr (6, [.ref q1, .ref q2, .ref q3, .int 0, .ref q4, .ref q5, .int 0, .int 0, .null, .null, .null, .null, .null, .null, .int 0, .int 0, .long 0, .long 0, .int 0, .null, .null, .null, .null, .int 0, .int 0, .null, .null, .null])), (q1, .inl (c1, 58, .inl (fun _ => 0))), (q2, .inl (c2, 464, .inl (fun _ => 0))), (q3, .inl (c3, 58, .inl (fun _ => 0))), (q4, .inl (c4, 3, .inl (fun _ => 0))), (q5, .inl (c5, 120, .inl (fun _ => 0))), (q6, .inl (c6, 6, .inr (.inl (fun _ => 0))))] [(c1, .int), (c2, .int), (c3, .int), (c4, .int), (c5, .int), (c6, .long)] 6 709
  refine k_putF G hI 0 rfl rfl 8 (by decide) (in_g (List.mem_of_getElem? (i := 772) (by decide +kernel)) rfl) rfl rfl (ty := .array .long) (by decide +kernel) rfl rfl (Nat.le_of_ble_eq_true rfl) dX6_init_49 [(h0, .inr (6, [.ref q1, .ref q2, .ref q3, .int 0, .ref q4, .ref q5, .int 0, .int 0, .ref q6, .null, .null, .null, .null, .null, .int 0, .int 0, .long 0, .long 0, .int 0, .null, .null, .null, .null, .int 0, .int 0, .null, .null, .null])), (q1, .inl (c1, 58, .inl (fun _ => 0))), (q2, .inl (c2, 464, .inl (fun _ => 0))), (q3, .inl (c3, 58, .inl (fun _ => 0))), (q4, .inl (c4, 3, .inl (fun _ => 0))), (q5, .inl (c5, 120, .inl (fun _ => 0))), (q6, .inl (c6, 6, .inr (.inl (fun _ => 0))))] rfl ?_
  refine k_aload G dX6_init_52 rfl 0 rfl ?_
  refine k_bip (v := 6) G dX6_init_53 rfl ?_
  refine k_newa G .int rfl ac_int 6 (6, .inl (fun _ => 0)) (fun _ => rfl) (by decide) rfl (by decide) (Nat.le_of_ble_eq_true rfl) (Nat.le_of_ble_eq_true rfl) dX6_init_55 (fun q7 c7 => ?_)
  show YW Γ 57 [(0, .ref h0)] [.ref q7, .ref h0] [(h0, .inr (6, [.ref q1, .ref q2, .ref q3, .int 0, .ref q4, .ref q5, .int 0, .int 0, .ref q6, .null, .null, .null, .null, .null, .int 0, .int 0, .long 0, .long 0, .int 0, .null, .null, .null, .null, .int 0, .int 0, .null, .null, .null])), (q1, .inl (c1, 58, .inl (fun _ => 0))), (q2, .inl (c2, 464, .inl (fun _ => 0))), (q3, .inl (c3, 58, .inl (fun _ => 0))), (q4, .inl (c4, 3, .inl (fun _ => 0))), (q5, .inl (c5, 120, .inl (fun _ => 0))), (q6, .inl (c6, 6, .inr (.inl (fun _ => 0)))), (q7, .inl (c7, 6, .inl (fun _ => 0)))] [(c1, .int), (c2, .int), (c3, .int), (c4, .int), (c5, .int), (c6, .long), (c7, .int)] 7 715
  refine k_putF G hI 0 rfl rfl 9 (by decide) (in_g (List.mem_of_getElem? (i := 773) (by decide +kernel)) rfl) rfl rfl (ty := .array .int) (by decide +kernel) rfl rfl (Nat.le_of_ble_eq_true rfl) dX6_init_57 [(h0, .inr (6, [.ref q1, .ref q2, .ref q3, .int 0, .ref q4, .ref q5, .int 0, .int 0, .ref q6, .ref q7, .null, .null, .null, .null, .int 0, .int 0, .long 0, .long 0, .int 0, .null, .null, .null, .null, .int 0, .int 0, .null, .null, .null])), (q1, .inl (c1, 58, .inl (fun _ => 0))), (q2, .inl (c2, 464, .inl (fun _ => 0))), (q3, .inl (c3, 58, .inl (fun _ => 0))), (q4, .inl (c4, 3, .inl (fun _ => 0))), (q5, .inl (c5, 120, .inl (fun _ => 0))), (q6, .inl (c6, 6, .inr (.inl (fun _ => 0)))), (q7, .inl (c7, 6, .inl (fun _ => 0)))] rfl ?_
  refine k_aload G dX6_init_60 rfl 0 rfl ?_
  refine k_bip (v := 6) G dX6_init_61 rfl ?_
  refine k_newa G .long rfl ac_long 6 (6, .inr (.inl (fun _ => 0))) (fun _ => rfl) (by decide) rfl (by decide) (Nat.le_of_ble_eq_true rfl) (Nat.le_of_ble_eq_true rfl) dX6_init_63 (fun q8 c8 => ?_)
  show YW Γ 65 [(0, .ref h0)] [.ref q8, .ref h0] [(h0, .inr (6, [.ref q1, .ref q2, .ref q3, .int 0, .ref q4, .ref q5, .int 0, .int 0, .ref q6, .ref q7, .null, .null, .null, .null, .int 0, .int 0, .long 0, .long 0, .int 0, .null, .null, .null, .null, .int 0, .int 0, .null, .null, .null])), (q1, .inl (c1, 58, .inl (fun _ => 0))), (q2, .inl (c2, 464, .inl (fun _ => 0))), (q3, .inl (c3, 58, .inl (fun _ => 0))), (q4, .inl (c4, 3, .inl (fun _ => 0))), (q5, .inl (c5, 120, .inl (fun _ => 0))), (q6, .inl (c6, 6, .inr (.inl (fun _ => 0)))), (q7, .inl (c7, 6, .inl (fun _ => 0))), (q8, .inl (c8, 6, .inr (.inl (fun _ => 0))))] [(c1, .int), (c2, .int), (c3, .int), (c4, .int), (c5, .int), (c6, .long), (c7, .int), (c8, .long)] 8 721
  refine k_putF G hI 0 rfl rfl 10 (by decide) (in_g (List.mem_of_getElem? (i := 774) (by decide +kernel)) rfl) rfl rfl (ty := .array .long) (by decide +kernel) rfl rfl (Nat.le_of_ble_eq_true rfl) dX6_init_65 [(h0, .inr (6, [.ref q1, .ref q2, .ref q3, .int 0, .ref q4, .ref q5, .int 0, .int 0, .ref q6, .ref q7, .ref q8, .null, .null, .null, .int 0, .int 0, .long 0, .long 0, .int 0, .null, .null, .null, .null, .int 0, .int 0, .null, .null, .null])), (q1, .inl (c1, 58, .inl (fun _ => 0))), (q2, .inl (c2, 464, .inl (fun _ => 0))), (q3, .inl (c3, 58, .inl (fun _ => 0))), (q4, .inl (c4, 3, .inl (fun _ => 0))), (q5, .inl (c5, 120, .inl (fun _ => 0))), (q6, .inl (c6, 6, .inr (.inl (fun _ => 0)))), (q7, .inl (c7, 6, .inl (fun _ => 0))), (q8, .inl (c8, 6, .inr (.inl (fun _ => 0))))] rfl ?_
  refine k_aload G dX6_init_68 rfl 0 rfl ?_
  refine k_bip (v := 6) G dX6_init_69 rfl ?_
  refine k_newa G .long rfl ac_long 6 (6, .inr (.inl (fun _ => 0))) (fun _ => rfl) (by decide) rfl (by decide) (Nat.le_of_ble_eq_true rfl) (Nat.le_of_ble_eq_true rfl) dX6_init_71 (fun q9 c9 => ?_)
  show YW Γ 73 [(0, .ref h0)] [.ref q9, .ref h0] [(h0, .inr (6, [.ref q1, .ref q2, .ref q3, .int 0, .ref q4, .ref q5, .int 0, .int 0, .ref q6, .ref q7, .ref q8, .null, .null, .null, .int 0, .int 0, .long 0, .long 0, .int 0, .null, .null, .null, .null, .int 0, .int 0, .null, .null, .null])), (q1, .inl (c1, 58, .inl (fun _ => 0))), (q2, .inl (c2, 464, .inl (fun _ => 0))), (q3, .inl (c3, 58, .inl (fun _ => 0))), (q4, .inl (c4, 3, .inl (fun _ => 0))), (q5, .inl (c5, 120, .inl (fun _ => 0))), (q6, .inl (c6, 6, .inr (.inl (fun _ => 0)))), (q7, .inl (c7, 6, .inl (fun _ => 0))), (q8, .inl (c8, 6, .inr (.inl (fun _ => 0)))), (q9, .inl (c9, 6, .inr (.inl (fun _ => 0))))] [(c1, .int), (c2, .int), (c3, .int), (c4, .int), (c5, .int), (c6, .long), (c7, .int), (c8, .long), (c9, .long)] 9 727
  refine k_putF G hI 0 rfl rfl 11 (by decide) (in_g (List.mem_of_getElem? (i := 775) (by decide +kernel)) rfl) rfl rfl (ty := .array .long) (by decide +kernel) rfl rfl (Nat.le_of_ble_eq_true rfl) dX6_init_73 [(h0, .inr (6, [.ref q1, .ref q2, .ref q3, .int 0, .ref q4, .ref q5, .int 0, .int 0, .ref q6, .ref q7, .ref q8, .ref q9, .null, .null, .int 0, .int 0, .long 0, .long 0, .int 0, .null, .null, .null, .null, .int 0, .int 0, .null, .null, .null])), (q1, .inl (c1, 58, .inl (fun _ => 0))), (q2, .inl (c2, 464, .inl (fun _ => 0))), (q3, .inl (c3, 58, .inl (fun _ => 0))), (q4, .inl (c4, 3, .inl (fun _ => 0))), (q5, .inl (c5, 120, .inl (fun _ => 0))), (q6, .inl (c6, 6, .inr (.inl (fun _ => 0)))), (q7, .inl (c7, 6, .inl (fun _ => 0))), (q8, .inl (c8, 6, .inr (.inl (fun _ => 0)))), (q9, .inl (c9, 6, .inr (.inl (fun _ => 0))))] rfl ?_
  refine k_aload G dX6_init_76 rfl 0 rfl ?_
  refine k_bip (v := 36) G dX6_init_77 rfl ?_
  refine k_newa G .long rfl ac_long 36 (36, .inr (.inl (fun _ => 0))) (fun _ => rfl) (by decide) rfl (by decide) (Nat.le_of_ble_eq_true rfl) (Nat.le_of_ble_eq_true rfl) dX6_init_79 (fun q10 c10 => ?_)
  show YW Γ 81 [(0, .ref h0)] [.ref q10, .ref h0] [(h0, .inr (6, [.ref q1, .ref q2, .ref q3, .int 0, .ref q4, .ref q5, .int 0, .int 0, .ref q6, .ref q7, .ref q8, .ref q9, .null, .null, .int 0, .int 0, .long 0, .long 0, .int 0, .null, .null, .null, .null, .int 0, .int 0, .null, .null, .null])), (q1, .inl (c1, 58, .inl (fun _ => 0))), (q2, .inl (c2, 464, .inl (fun _ => 0))), (q3, .inl (c3, 58, .inl (fun _ => 0))), (q4, .inl (c4, 3, .inl (fun _ => 0))), (q5, .inl (c5, 120, .inl (fun _ => 0))), (q6, .inl (c6, 6, .inr (.inl (fun _ => 0)))), (q7, .inl (c7, 6, .inl (fun _ => 0))), (q8, .inl (c8, 6, .inr (.inl (fun _ => 0)))), (q9, .inl (c9, 6, .inr (.inl (fun _ => 0)))), (q10, .inl (c10, 36, .inr (.inl (fun _ => 0))))] [(c1, .int), (c2, .int), (c3, .int), (c4, .int), (c5, .int), (c6, .long), (c7, .int), (c8, .long), (c9, .long), (c10, .long)] 10 763
  refine k_putF G hI 0 rfl rfl 12 (by decide) (in_g (List.mem_of_getElem? (i := 776) (by decide +kernel)) rfl) rfl rfl (ty := .array .long) (by decide +kernel) rfl rfl (Nat.le_of_ble_eq_true rfl) dX6_init_81 [(h0, .inr (6, [.ref q1, .ref q2, .ref q3, .int 0, .ref q4, .ref q5, .int 0, .int 0, .ref q6, .ref q7, .ref q8, .ref q9, .ref q10, .null, .int 0, .int 0, .long 0, .long 0, .int 0, .null, .null, .null, .null, .int 0, .int 0, .null, .null, .null])), (q1, .inl (c1, 58, .inl (fun _ => 0))), (q2, .inl (c2, 464, .inl (fun _ => 0))), (q3, .inl (c3, 58, .inl (fun _ => 0))), (q4, .inl (c4, 3, .inl (fun _ => 0))), (q5, .inl (c5, 120, .inl (fun _ => 0))), (q6, .inl (c6, 6, .inr (.inl (fun _ => 0)))), (q7, .inl (c7, 6, .inl (fun _ => 0))), (q8, .inl (c8, 6, .inr (.inl (fun _ => 0)))), (q9, .inl (c9, 6, .inr (.inl (fun _ => 0)))), (q10, .inl (c10, 36, .inr (.inl (fun _ => 0))))] rfl ?_
  refine k_aload G dX6_init_84 rfl 0 rfl ?_
  refine k_bip (v := 6) G dX6_init_85 rfl ?_
  refine k_newa G .int rfl ac_int 6 (6, .inl (fun _ => 0)) (fun _ => rfl) (by decide) rfl (by decide) (Nat.le_of_ble_eq_true rfl) (Nat.le_of_ble_eq_true rfl) dX6_init_87 (fun q11 c11 => ?_)
  show YW Γ 89 [(0, .ref h0)] [.ref q11, .ref h0] [(h0, .inr (6, [.ref q1, .ref q2, .ref q3, .int 0, .ref q4, .ref q5, .int 0, .int 0, .ref q6, .ref q7, .ref q8, .ref q9, .ref q10, .null, .int 0, .int 0, .long 0, .long 0, .int 0, .null, .null, .null, .null, .int 0, .int 0, .null, .null, .null])), (q1, .inl (c1, 58, .inl (fun _ => 0))), (q2, .inl (c2, 464, .inl (fun _ => 0))), (q3, .inl (c3, 58, .inl (fun _ => 0))), (q4, .inl (c4, 3, .inl (fun _ => 0))), (q5, .inl (c5, 120, .inl (fun _ => 0))), (q6, .inl (c6, 6, .inr (.inl (fun _ => 0)))), (q7, .inl (c7, 6, .inl (fun _ => 0))), (q8, .inl (c8, 6, .inr (.inl (fun _ => 0)))), (q9, .inl (c9, 6, .inr (.inl (fun _ => 0)))), (q10, .inl (c10, 36, .inr (.inl (fun _ => 0)))), (q11, .inl (c11, 6, .inl (fun _ => 0)))] [(c1, .int), (c2, .int), (c3, .int), (c4, .int), (c5, .int), (c6, .long), (c7, .int), (c8, .long), (c9, .long), (c10, .long), (c11, .int)] 11 769
  refine k_putF G hI 0 rfl rfl 13 (by decide) (in_g (List.mem_of_getElem? (i := 777) (by decide +kernel)) rfl) rfl rfl (ty := .array .int) (by decide +kernel) rfl rfl (Nat.le_of_ble_eq_true rfl) dX6_init_89 [(h0, .inr (6, [.ref q1, .ref q2, .ref q3, .int 0, .ref q4, .ref q5, .int 0, .int 0, .ref q6, .ref q7, .ref q8, .ref q9, .ref q10, .ref q11, .int 0, .int 0, .long 0, .long 0, .int 0, .null, .null, .null, .null, .int 0, .int 0, .null, .null, .null])), (q1, .inl (c1, 58, .inl (fun _ => 0))), (q2, .inl (c2, 464, .inl (fun _ => 0))), (q3, .inl (c3, 58, .inl (fun _ => 0))), (q4, .inl (c4, 3, .inl (fun _ => 0))), (q5, .inl (c5, 120, .inl (fun _ => 0))), (q6, .inl (c6, 6, .inr (.inl (fun _ => 0)))), (q7, .inl (c7, 6, .inl (fun _ => 0))), (q8, .inl (c8, 6, .inr (.inl (fun _ => 0)))), (q9, .inl (c9, 6, .inr (.inl (fun _ => 0)))), (q10, .inl (c10, 36, .inr (.inl (fun _ => 0)))), (q11, .inl (c11, 6, .inl (fun _ => 0)))] rfl ?_
  refine k_aload G dX6_init_92 rfl 0 rfl ?_
  refine k_bip (v := 45) G dX6_init_93 rfl ?_
  refine k_newa G .int rfl ac_int 45 (45, .inl (fun _ => 0)) (fun _ => rfl) (by decide) rfl (by decide) (Nat.le_of_ble_eq_true rfl) (Nat.le_of_ble_eq_true rfl) dX6_init_95 (fun q12 c12 => ?_)
  show YW Γ 97 [(0, .ref h0)] [.ref q12, .ref h0] [(h0, .inr (6, [.ref q1, .ref q2, .ref q3, .int 0, .ref q4, .ref q5, .int 0, .int 0, .ref q6, .ref q7, .ref q8, .ref q9, .ref q10, .ref q11, .int 0, .int 0, .long 0, .long 0, .int 0, .null, .null, .null, .null, .int 0, .int 0, .null, .null, .null])), (q1, .inl (c1, 58, .inl (fun _ => 0))), (q2, .inl (c2, 464, .inl (fun _ => 0))), (q3, .inl (c3, 58, .inl (fun _ => 0))), (q4, .inl (c4, 3, .inl (fun _ => 0))), (q5, .inl (c5, 120, .inl (fun _ => 0))), (q6, .inl (c6, 6, .inr (.inl (fun _ => 0)))), (q7, .inl (c7, 6, .inl (fun _ => 0))), (q8, .inl (c8, 6, .inr (.inl (fun _ => 0)))), (q9, .inl (c9, 6, .inr (.inl (fun _ => 0)))), (q10, .inl (c10, 36, .inr (.inl (fun _ => 0)))), (q11, .inl (c11, 6, .inl (fun _ => 0))), (q12, .inl (c12, 45, .inl (fun _ => 0)))] [(c1, .int), (c2, .int), (c3, .int), (c4, .int), (c5, .int), (c6, .long), (c7, .int), (c8, .long), (c9, .long), (c10, .long), (c11, .int), (c12, .int)] 12 814
  refine k_putF G hI 0 rfl rfl 19 (by decide) (in_g (List.mem_of_getElem? (i := 783) (by decide +kernel)) rfl) rfl rfl (ty := .array .int) (by decide +kernel) rfl rfl (Nat.le_of_ble_eq_true rfl) dX6_init_97 [(h0, .inr (6, [.ref q1, .ref q2, .ref q3, .int 0, .ref q4, .ref q5, .int 0, .int 0, .ref q6, .ref q7, .ref q8, .ref q9, .ref q10, .ref q11, .int 0, .int 0, .long 0, .long 0, .int 0, .ref q12, .null, .null, .null, .int 0, .int 0, .null, .null, .null])), (q1, .inl (c1, 58, .inl (fun _ => 0))), (q2, .inl (c2, 464, .inl (fun _ => 0))), (q3, .inl (c3, 58, .inl (fun _ => 0))), (q4, .inl (c4, 3, .inl (fun _ => 0))), (q5, .inl (c5, 120, .inl (fun _ => 0))), (q6, .inl (c6, 6, .inr (.inl (fun _ => 0)))), (q7, .inl (c7, 6, .inl (fun _ => 0))), (q8, .inl (c8, 6, .inr (.inl (fun _ => 0)))), (q9, .inl (c9, 6, .inr (.inl (fun _ => 0)))), (q10, .inl (c10, 36, .inr (.inl (fun _ => 0)))), (q11, .inl (c11, 6, .inl (fun _ => 0))), (q12, .inl (c12, 45, .inl (fun _ => 0)))] rfl ?_
  refine k_aload G dX6_init_100 rfl 0 rfl ?_
  refine k_bip (v := 45) G dX6_init_101 rfl ?_
  refine k_newa G .int rfl ac_int 45 (45, .inl (fun _ => 0)) (fun _ => rfl) (by decide) rfl (by decide) (Nat.le_of_ble_eq_true rfl) (Nat.le_of_ble_eq_true rfl) dX6_init_103 (fun q13 c13 => ?_)
  show YW Γ 105 [(0, .ref h0)] [.ref q13, .ref h0] [(h0, .inr (6, [.ref q1, .ref q2, .ref q3, .int 0, .ref q4, .ref q5, .int 0, .int 0, .ref q6, .ref q7, .ref q8, .ref q9, .ref q10, .ref q11, .int 0, .int 0, .long 0, .long 0, .int 0, .ref q12, .null, .null, .null, .int 0, .int 0, .null, .null, .null])), (q1, .inl (c1, 58, .inl (fun _ => 0))), (q2, .inl (c2, 464, .inl (fun _ => 0))), (q3, .inl (c3, 58, .inl (fun _ => 0))), (q4, .inl (c4, 3, .inl (fun _ => 0))), (q5, .inl (c5, 120, .inl (fun _ => 0))), (q6, .inl (c6, 6, .inr (.inl (fun _ => 0)))), (q7, .inl (c7, 6, .inl (fun _ => 0))), (q8, .inl (c8, 6, .inr (.inl (fun _ => 0)))), (q9, .inl (c9, 6, .inr (.inl (fun _ => 0)))), (q10, .inl (c10, 36, .inr (.inl (fun _ => 0)))), (q11, .inl (c11, 6, .inl (fun _ => 0))), (q12, .inl (c12, 45, .inl (fun _ => 0))), (q13, .inl (c13, 45, .inl (fun _ => 0)))] [(c1, .int), (c2, .int), (c3, .int), (c4, .int), (c5, .int), (c6, .long), (c7, .int), (c8, .long), (c9, .long), (c10, .long), (c11, .int), (c12, .int), (c13, .int)] 13 859
  refine k_putF G hI 0 rfl rfl 20 (by decide) (in_g (List.mem_of_getElem? (i := 784) (by decide +kernel)) rfl) rfl rfl (ty := .array .int) (by decide +kernel) rfl rfl (Nat.le_of_ble_eq_true rfl) dX6_init_105 [(h0, .inr (6, [.ref q1, .ref q2, .ref q3, .int 0, .ref q4, .ref q5, .int 0, .int 0, .ref q6, .ref q7, .ref q8, .ref q9, .ref q10, .ref q11, .int 0, .int 0, .long 0, .long 0, .int 0, .ref q12, .ref q13, .null, .null, .int 0, .int 0, .null, .null, .null])), (q1, .inl (c1, 58, .inl (fun _ => 0))), (q2, .inl (c2, 464, .inl (fun _ => 0))), (q3, .inl (c3, 58, .inl (fun _ => 0))), (q4, .inl (c4, 3, .inl (fun _ => 0))), (q5, .inl (c5, 120, .inl (fun _ => 0))), (q6, .inl (c6, 6, .inr (.inl (fun _ => 0)))), (q7, .inl (c7, 6, .inl (fun _ => 0))), (q8, .inl (c8, 6, .inr (.inl (fun _ => 0)))), (q9, .inl (c9, 6, .inr (.inl (fun _ => 0)))), (q10, .inl (c10, 36, .inr (.inl (fun _ => 0)))), (q11, .inl (c11, 6, .inl (fun _ => 0))), (q12, .inl (c12, 45, .inl (fun _ => 0))), (q13, .inl (c13, 45, .inl (fun _ => 0)))] rfl ?_
  refine k_aload G dX6_init_108 rfl 0 rfl ?_
  refine k_bip (v := 45) G dX6_init_109 rfl ?_
  refine k_newa G .long rfl ac_long 45 (45, .inr (.inl (fun _ => 0))) (fun _ => rfl) (by decide) rfl (by decide) (Nat.le_of_ble_eq_true rfl) (Nat.le_of_ble_eq_true rfl) dX6_init_111 (fun q14 c14 => ?_)
  show YW Γ 113 [(0, .ref h0)] [.ref q14, .ref h0] [(h0, .inr (6, [.ref q1, .ref q2, .ref q3, .int 0, .ref q4, .ref q5, .int 0, .int 0, .ref q6, .ref q7, .ref q8, .ref q9, .ref q10, .ref q11, .int 0, .int 0, .long 0, .long 0, .int 0, .ref q12, .ref q13, .null, .null, .int 0, .int 0, .null, .null, .null])), (q1, .inl (c1, 58, .inl (fun _ => 0))), (q2, .inl (c2, 464, .inl (fun _ => 0))), (q3, .inl (c3, 58, .inl (fun _ => 0))), (q4, .inl (c4, 3, .inl (fun _ => 0))), (q5, .inl (c5, 120, .inl (fun _ => 0))), (q6, .inl (c6, 6, .inr (.inl (fun _ => 0)))), (q7, .inl (c7, 6, .inl (fun _ => 0))), (q8, .inl (c8, 6, .inr (.inl (fun _ => 0)))), (q9, .inl (c9, 6, .inr (.inl (fun _ => 0)))), (q10, .inl (c10, 36, .inr (.inl (fun _ => 0)))), (q11, .inl (c11, 6, .inl (fun _ => 0))), (q12, .inl (c12, 45, .inl (fun _ => 0))), (q13, .inl (c13, 45, .inl (fun _ => 0))), (q14, .inl (c14, 45, .inr (.inl (fun _ => 0))))] [(c1, .int), (c2, .int), (c3, .int), (c4, .int), (c5, .int), (c6, .long), (c7, .int), (c8, .long), (c9, .long), (c10, .long), (c11, .int), (c12, .int), (c13, .int), (c14, .long)] 14 904
  refine k_putF G hI 0 rfl rfl 21 (by decide) (in_g (List.mem_of_getElem? (i := 785) (by decide +kernel)) rfl) rfl rfl (ty := .array .long) (by decide +kernel) rfl rfl (Nat.le_of_ble_eq_true rfl) dX6_init_113 [(h0, .inr (6, [.ref q1, .ref q2, .ref q3, .int 0, .ref q4, .ref q5, .int 0, .int 0, .ref q6, .ref q7, .ref q8, .ref q9, .ref q10, .ref q11, .int 0, .int 0, .long 0, .long 0, .int 0, .ref q12, .ref q13, .ref q14, .null, .int 0, .int 0, .null, .null, .null])), (q1, .inl (c1, 58, .inl (fun _ => 0))), (q2, .inl (c2, 464, .inl (fun _ => 0))), (q3, .inl (c3, 58, .inl (fun _ => 0))), (q4, .inl (c4, 3, .inl (fun _ => 0))), (q5, .inl (c5, 120, .inl (fun _ => 0))), (q6, .inl (c6, 6, .inr (.inl (fun _ => 0)))), (q7, .inl (c7, 6, .inl (fun _ => 0))), (q8, .inl (c8, 6, .inr (.inl (fun _ => 0)))), (q9, .inl (c9, 6, .inr (.inl (fun _ => 0)))), (q10, .inl (c10, 36, .inr (.inl (fun _ => 0)))), (q11, .inl (c11, 6, .inl (fun _ => 0))), (q12, .inl (c12, 45, .inl (fun _ => 0))), (q13, .inl (c13, 45, .inl (fun _ => 0))), (q14, .inl (c14, 45, .inr (.inl (fun _ => 0))))] rfl ?_
  refine k_aload G dX6_init_116 rfl 0 rfl ?_
  refine k_bip (v := 45) G dX6_init_117 rfl ?_
  refine k_newa G .long rfl ac_long 45 (45, .inr (.inl (fun _ => 0))) (fun _ => rfl) (by decide) rfl (by decide) (Nat.le_of_ble_eq_true rfl) (Nat.le_of_ble_eq_true rfl) dX6_init_119 (fun q15 c15 => ?_)
  show YW Γ 121 [(0, .ref h0)] [.ref q15, .ref h0] [(h0, .inr (6, [.ref q1, .ref q2, .ref q3, .int 0, .ref q4, .ref q5, .int 0, .int 0, .ref q6, .ref q7, .ref q8, .ref q9, .ref q10, .ref q11, .int 0, .int 0, .long 0, .long 0, .int 0, .ref q12, .ref q13, .ref q14, .null, .int 0, .int 0, .null, .null, .null])), (q1, .inl (c1, 58, .inl (fun _ => 0))), (q2, .inl (c2, 464, .inl (fun _ => 0))), (q3, .inl (c3, 58, .inl (fun _ => 0))), (q4, .inl (c4, 3, .inl (fun _ => 0))), (q5, .inl (c5, 120, .inl (fun _ => 0))), (q6, .inl (c6, 6, .inr (.inl (fun _ => 0)))), (q7, .inl (c7, 6, .inl (fun _ => 0))), (q8, .inl (c8, 6, .inr (.inl (fun _ => 0)))), (q9, .inl (c9, 6, .inr (.inl (fun _ => 0)))), (q10, .inl (c10, 36, .inr (.inl (fun _ => 0)))), (q11, .inl (c11, 6, .inl (fun _ => 0))), (q12, .inl (c12, 45, .inl (fun _ => 0))), (q13, .inl (c13, 45, .inl (fun _ => 0))), (q14, .inl (c14, 45, .inr (.inl (fun _ => 0)))), (q15, .inl (c15, 45, .inr (.inl (fun _ => 0))))] [(c1, .int), (c2, .int), (c3, .int), (c4, .int), (c5, .int), (c6, .long), (c7, .int), (c8, .long), (c9, .long), (c10, .long), (c11, .int), (c12, .int), (c13, .int), (c14, .long), (c15, .long)] 15 949
  refine k_putF G hI 0 rfl rfl 22 (by decide) (in_g (List.mem_of_getElem? (i := 786) (by decide +kernel)) rfl) rfl rfl (ty := .array .long) (by decide +kernel) rfl rfl (Nat.le_of_ble_eq_true rfl) dX6_init_121 [(h0, .inr (6, [.ref q1, .ref q2, .ref q3, .int 0, .ref q4, .ref q5, .int 0, .int 0, .ref q6, .ref q7, .ref q8, .ref q9, .ref q10, .ref q11, .int 0, .int 0, .long 0, .long 0, .int 0, .ref q12, .ref q13, .ref q14, .ref q15, .int 0, .int 0, .null, .null, .null])), (q1, .inl (c1, 58, .inl (fun _ => 0))), (q2, .inl (c2, 464, .inl (fun _ => 0))), (q3, .inl (c3, 58, .inl (fun _ => 0))), (q4, .inl (c4, 3, .inl (fun _ => 0))), (q5, .inl (c5, 120, .inl (fun _ => 0))), (q6, .inl (c6, 6, .inr (.inl (fun _ => 0)))), (q7, .inl (c7, 6, .inl (fun _ => 0))), (q8, .inl (c8, 6, .inr (.inl (fun _ => 0)))), (q9, .inl (c9, 6, .inr (.inl (fun _ => 0)))), (q10, .inl (c10, 36, .inr (.inl (fun _ => 0)))), (q11, .inl (c11, 6, .inl (fun _ => 0))), (q12, .inl (c12, 45, .inl (fun _ => 0))), (q13, .inl (c13, 45, .inl (fun _ => 0))), (q14, .inl (c14, 45, .inr (.inl (fun _ => 0)))), (q15, .inl (c15, 45, .inr (.inl (fun _ => 0))))] rfl ?_
  refine k_aload G dX6_init_124 rfl 0 rfl ?_
  refine k_bip (v := 10) G dX6_init_125 rfl ?_
  refine k_newa G .long rfl ac_long 10 (10, .inr (.inl (fun _ => 0))) (fun _ => rfl) (by decide) rfl (by decide) (Nat.le_of_ble_eq_true rfl) (Nat.le_of_ble_eq_true rfl) dX6_init_127 (fun q16 c16 => ?_)
  show YW Γ 129 [(0, .ref h0)] [.ref q16, .ref h0] [(h0, .inr (6, [.ref q1, .ref q2, .ref q3, .int 0, .ref q4, .ref q5, .int 0, .int 0, .ref q6, .ref q7, .ref q8, .ref q9, .ref q10, .ref q11, .int 0, .int 0, .long 0, .long 0, .int 0, .ref q12, .ref q13, .ref q14, .ref q15, .int 0, .int 0, .null, .null, .null])), (q1, .inl (c1, 58, .inl (fun _ => 0))), (q2, .inl (c2, 464, .inl (fun _ => 0))), (q3, .inl (c3, 58, .inl (fun _ => 0))), (q4, .inl (c4, 3, .inl (fun _ => 0))), (q5, .inl (c5, 120, .inl (fun _ => 0))), (q6, .inl (c6, 6, .inr (.inl (fun _ => 0)))), (q7, .inl (c7, 6, .inl (fun _ => 0))), (q8, .inl (c8, 6, .inr (.inl (fun _ => 0)))), (q9, .inl (c9, 6, .inr (.inl (fun _ => 0)))), (q10, .inl (c10, 36, .inr (.inl (fun _ => 0)))), (q11, .inl (c11, 6, .inl (fun _ => 0))), (q12, .inl (c12, 45, .inl (fun _ => 0))), (q13, .inl (c13, 45, .inl (fun _ => 0))), (q14, .inl (c14, 45, .inr (.inl (fun _ => 0)))), (q15, .inl (c15, 45, .inr (.inl (fun _ => 0)))), (q16, .inl (c16, 10, .inr (.inl (fun _ => 0))))] [(c1, .int), (c2, .int), (c3, .int), (c4, .int), (c5, .int), (c6, .long), (c7, .int), (c8, .long), (c9, .long), (c10, .long), (c11, .int), (c12, .int), (c13, .int), (c14, .long), (c15, .long), (c16, .long)] 16 959
  refine k_putF G hI 0 rfl rfl 25 (by decide) (in_g (List.mem_of_getElem? (i := 789) (by decide +kernel)) rfl) rfl rfl (ty := .array .long) (by decide +kernel) rfl rfl (Nat.le_of_ble_eq_true rfl) dX6_init_129 [(h0, .inr (6, [.ref q1, .ref q2, .ref q3, .int 0, .ref q4, .ref q5, .int 0, .int 0, .ref q6, .ref q7, .ref q8, .ref q9, .ref q10, .ref q11, .int 0, .int 0, .long 0, .long 0, .int 0, .ref q12, .ref q13, .ref q14, .ref q15, .int 0, .int 0, .ref q16, .null, .null])), (q1, .inl (c1, 58, .inl (fun _ => 0))), (q2, .inl (c2, 464, .inl (fun _ => 0))), (q3, .inl (c3, 58, .inl (fun _ => 0))), (q4, .inl (c4, 3, .inl (fun _ => 0))), (q5, .inl (c5, 120, .inl (fun _ => 0))), (q6, .inl (c6, 6, .inr (.inl (fun _ => 0)))), (q7, .inl (c7, 6, .inl (fun _ => 0))), (q8, .inl (c8, 6, .inr (.inl (fun _ => 0)))), (q9, .inl (c9, 6, .inr (.inl (fun _ => 0)))), (q10, .inl (c10, 36, .inr (.inl (fun _ => 0)))), (q11, .inl (c11, 6, .inl (fun _ => 0))), (q12, .inl (c12, 45, .inl (fun _ => 0))), (q13, .inl (c13, 45, .inl (fun _ => 0))), (q14, .inl (c14, 45, .inr (.inl (fun _ => 0)))), (q15, .inl (c15, 45, .inr (.inl (fun _ => 0)))), (q16, .inl (c16, 10, .inr (.inl (fun _ => 0))))] rfl ?_
  refine k_aload G dX6_init_132 rfl 0 rfl ?_
  refine k_bip (v := 64) G dX6_init_133 rfl ?_
  refine k_newa G .int rfl ac_int 64 (64, .inl (fun _ => 0)) (fun _ => rfl) (by decide) rfl (by decide) (Nat.le_of_ble_eq_true rfl) (Nat.le_of_ble_eq_true rfl) dX6_init_135 (fun q17 c17 => ?_)
  show YW Γ 137 [(0, .ref h0)] [.ref q17, .ref h0] ([(h0, .inr (6, [.ref q1, .ref q2, .ref q3, .int 0, .ref q4, .ref q5, .int 0, .int 0, .ref q6, .ref q7, .ref q8, .ref q9, .ref q10, .ref q11, .int 0, .int 0, .long 0, .long 0, .int 0, .ref q12, .ref q13, .ref q14, .ref q15, .int 0, .int 0, .ref q16, .null, .null])), (q1, .inl (c1, 58, .inl (fun _ => 0))), (q2, .inl (c2, 464, .inl (fun _ => 0))), (q3, .inl (c3, 58, .inl (fun _ => 0))), (q4, .inl (c4, 3, .inl (fun _ => 0))), (q5, .inl (c5, 120, .inl (fun _ => 0))), (q6, .inl (c6, 6, .inr (.inl (fun _ => 0)))), (q7, .inl (c7, 6, .inl (fun _ => 0))), (q8, .inl (c8, 6, .inr (.inl (fun _ => 0)))), (q9, .inl (c9, 6, .inr (.inl (fun _ => 0)))), (q10, .inl (c10, 36, .inr (.inl (fun _ => 0)))), (q11, .inl (c11, 6, .inl (fun _ => 0))), (q12, .inl (c12, 45, .inl (fun _ => 0))), (q13, .inl (c13, 45, .inl (fun _ => 0))), (q14, .inl (c14, 45, .inr (.inl (fun _ => 0)))), (q15, .inl (c15, 45, .inr (.inl (fun _ => 0)))), (q16, .inl (c16, 10, .inr (.inl (fun _ => 0))))] ++ [(q17, .inl (c17, 64, .inl (wdF 0)))]) ([(c1, .int), (c2, .int), (c3, .int), (c4, .int), (c5, .int), (c6, .long), (c7, .int), (c8, .long), (c9, .long), (c10, .long), (c11, .int), (c12, .int), (c13, .int), (c14, .long), (c15, .long), (c16, .long)] ++ [(c17, .int)]) 17 1023
  refine k_dup G dX6_init_137 rfl ?_
  refine k_icst (v := 0) G dX6_init_138 rfl ?_
  refine k_bip (v := 98) G dX6_init_139 rfl ?_
  refine k_wst (f := wdF 0) (f2 := wdF 1) G rfl dX6_init_141 wd_0 ?_
  refine k_dup G dX6_init_142 rfl ?_
  refine k_icst (v := 1) G dX6_init_143 rfl ?_
  refine k_bip (v := 117) G dX6_init_144 rfl ?_
  refine k_wst (f := wdF 1) (f2 := wdF 2) G rfl dX6_init_146 wd_1 ?_
  refine k_dup G dX6_init_147 rfl ?_
  refine k_icst (v := 2) G dX6_init_148 rfl ?_
  refine k_bip (v := 115) G dX6_init_149 rfl ?_
  refine k_wst (f := wdF 2) (f2 := wdF 3) G rfl dX6_init_151 wd_2 ?_
  refine k_dup G dX6_init_152 rfl ?_
  refine k_icst (v := 3) G dX6_init_153 rfl ?_
  refine k_icst (v := 0) G dX6_init_154 rfl ?_
  refine k_wst (f := wdF 3) (f2 := wdF 4) G rfl dX6_init_155 wd_3 ?_
  refine k_dup G dX6_init_156 rfl ?_
  refine k_icst (v := 4) G dX6_init_157 rfl ?_
  refine k_icst (v := 0) G dX6_init_158 rfl ?_
  refine k_wst (f := wdF 4) (f2 := wdF 5) G rfl dX6_init_159 wd_4 ?_
  refine k_dup G dX6_init_160 rfl ?_
  refine k_icst (v := 5) G dX6_init_161 rfl ?_
  refine k_icst (v := 0) G dX6_init_162 rfl ?_
  refine k_wst (f := wdF 5) (f2 := wdF 6) G rfl dX6_init_163 wd_5 ?_
  refine k_dup G dX6_init_164 rfl ?_
  refine k_bip (v := 6) G dX6_init_165 rfl ?_
  refine k_icst (v := 0) G dX6_init_167 rfl ?_
  refine k_wst (f := wdF 6) (f2 := wdF 7) G rfl dX6_init_168 wd_6 ?_
  refine k_dup G dX6_init_169 rfl ?_
  refine k_bip (v := 7) G dX6_init_170 rfl ?_
  refine k_icst (v := 0) G dX6_init_172 rfl ?_
  refine k_wst (f := wdF 7) (f2 := wdF 8) G rfl dX6_init_173 wd_7 ?_
  refine k_dup G dX6_init_174 rfl ?_
  refine k_bip (v := 8) G dX6_init_175 rfl ?_
  refine k_bip (v := 108) G dX6_init_177 rfl ?_
  refine k_wst (f := wdF 8) (f2 := wdF 9) G rfl dX6_init_179 wd_8 ?_
  refine k_dup G dX6_init_180 rfl ?_
  refine k_bip (v := 9) G dX6_init_181 rfl ?_
  refine k_bip (v := 105) G dX6_init_183 rfl ?_
  refine k_wst (f := wdF 9) (f2 := wdF 10) G rfl dX6_init_185 wd_9 ?_
  refine k_dup G dX6_init_186 rfl ?_
  refine k_bip (v := 10) G dX6_init_187 rfl ?_
  refine k_bip (v := 110) G dX6_init_189 rfl ?_
  refine k_wst (f := wdF 10) (f2 := wdF 11) G rfl dX6_init_191 wd_10 ?_
  refine k_dup G dX6_init_192 rfl ?_
  refine k_bip (v := 11) G dX6_init_193 rfl ?_
  refine k_bip (v := 101) G dX6_init_195 rfl ?_
  refine k_wst (f := wdF 11) (f2 := wdF 12) G rfl dX6_init_197 wd_11 ?_
  refine k_dup G dX6_init_198 rfl ?_
  refine k_bip (v := 12) G dX6_init_199 rfl ?_
  refine k_icst (v := 0) G dX6_init_201 rfl ?_
  refine k_wst (f := wdF 12) (f2 := wdF 13) G rfl dX6_init_202 wd_12 ?_
  refine k_dup G dX6_init_203 rfl ?_
  refine k_bip (v := 13) G dX6_init_204 rfl ?_
  refine k_icst (v := 0) G dX6_init_206 rfl ?_
  refine k_wst (f := wdF 13) (f2 := wdF 14) G rfl dX6_init_207 wd_13 ?_
  refine k_dup G dX6_init_208 rfl ?_
  refine k_bip (v := 14) G dX6_init_209 rfl ?_
  refine k_icst (v := 0) G dX6_init_211 rfl ?_
  refine k_wst (f := wdF 14) (f2 := wdF 15) G rfl dX6_init_212 wd_14 ?_
  refine k_dup G dX6_init_213 rfl ?_
  refine k_bip (v := 15) G dX6_init_214 rfl ?_
  refine k_icst (v := 0) G dX6_init_216 rfl ?_
  refine k_wst (f := wdF 15) (f2 := wdF 16) G rfl dX6_init_217 wd_15 ?_
  refine k_dup G dX6_init_218 rfl ?_
  refine k_bip (v := 16) G dX6_init_219 rfl ?_
  refine k_bip (v := 111) G dX6_init_221 rfl ?_
  refine k_wst (f := wdF 16) (f2 := wdF 17) G rfl dX6_init_223 wd_16 ?_
  refine k_dup G dX6_init_224 rfl ?_
  refine k_bip (v := 17) G dX6_init_225 rfl ?_
  refine k_bip (v := 112) G dX6_init_227 rfl ?_
  refine k_wst (f := wdF 17) (f2 := wdF 18) G rfl dX6_init_229 wd_17 ?_
  refine k_dup G dX6_init_230 rfl ?_
  refine k_bip (v := 18) G dX6_init_231 rfl ?_
  refine k_bip (v := 101) G dX6_init_233 rfl ?_
  refine k_wst (f := wdF 18) (f2 := wdF 19) G rfl dX6_init_235 wd_18 ?_
  refine k_dup G dX6_init_236 rfl ?_
  refine k_bip (v := 19) G dX6_init_237 rfl ?_
  refine k_bip (v := 110) G dX6_init_239 rfl ?_
  refine k_wst (f := wdF 19) (f2 := wdF 20) G rfl dX6_init_241 wd_19 ?_
  refine k_dup G dX6_init_242 rfl ?_
  refine k_bip (v := 20) G dX6_init_243 rfl ?_
  refine k_icst (v := 0) G dX6_init_245 rfl ?_
  refine k_wst (f := wdF 20) (f2 := wdF 21) G rfl dX6_init_246 wd_20 ?_
  refine k_dup G dX6_init_247 rfl ?_
  refine k_bip (v := 21) G dX6_init_248 rfl ?_
  refine k_icst (v := 0) G dX6_init_250 rfl ?_
  refine k_wst (f := wdF 21) (f2 := wdF 22) G rfl dX6_init_251 wd_21 ?_
  refine k_dup G dX6_init_252 rfl ?_
  refine k_bip (v := 22) G dX6_init_253 rfl ?_
  refine k_icst (v := 0) G dX6_init_255 rfl ?_
  refine k_wst (f := wdF 22) (f2 := wdF 23) G rfl dX6_init_256 wd_22 ?_
  refine k_dup G dX6_init_257 rfl ?_
  refine k_bip (v := 23) G dX6_init_258 rfl ?_
  refine k_icst (v := 0) G dX6_init_260 rfl ?_
  refine k_wst (f := wdF 23) (f2 := wdF 24) G rfl dX6_init_261 wd_23 ?_
  refine k_dup G dX6_init_262 rfl ?_
  refine k_bip (v := 24) G dX6_init_263 rfl ?_
  refine k_bip (v := 99) G dX6_init_265 rfl ?_
  refine k_wst (f := wdF 24) (f2 := wdF 25) G rfl dX6_init_267 wd_24 ?_
  refine k_dup G dX6_init_268 rfl ?_
  refine k_bip (v := 25) G dX6_init_269 rfl ?_
  refine k_bip (v := 108) G dX6_init_271 rfl ?_
  refine k_wst (f := wdF 25) (f2 := wdF 26) G rfl dX6_init_273 wd_25 ?_
  refine k_dup G dX6_init_274 rfl ?_
  refine k_bip (v := 26) G dX6_init_275 rfl ?_
  refine k_bip (v := 111) G dX6_init_277 rfl ?_
  refine k_wst (f := wdF 26) (f2 := wdF 27) G rfl dX6_init_279 wd_26 ?_
  refine k_dup G dX6_init_280 rfl ?_
  refine k_bip (v := 27) G dX6_init_281 rfl ?_
  refine k_bip (v := 115) G dX6_init_283 rfl ?_
  refine k_wst (f := wdF 27) (f2 := wdF 28) G rfl dX6_init_285 wd_27 ?_
  refine k_dup G dX6_init_286 rfl ?_
  refine k_bip (v := 28) G dX6_init_287 rfl ?_
  refine k_bip (v := 101) G dX6_init_289 rfl ?_
  refine k_wst (f := wdF 28) (f2 := wdF 29) G rfl dX6_init_291 wd_28 ?_
  refine k_dup G dX6_init_292 rfl ?_
  refine k_bip (v := 29) G dX6_init_293 rfl ?_
  refine k_icst (v := 0) G dX6_init_295 rfl ?_
  refine k_wst (f := wdF 29) (f2 := wdF 30) G rfl dX6_init_296 wd_29 ?_
  refine k_dup G dX6_init_297 rfl ?_
  refine k_bip (v := 30) G dX6_init_298 rfl ?_
  refine k_icst (v := 0) G dX6_init_300 rfl ?_
  refine k_wst (f := wdF 30) (f2 := wdF 31) G rfl dX6_init_301 wd_30 ?_
  refine k_dup G dX6_init_302 rfl ?_
  refine k_bip (v := 31) G dX6_init_303 rfl ?_
  refine k_icst (v := 0) G dX6_init_305 rfl ?_
  refine k_wst (f := wdF 31) (f2 := wdF 32) G rfl dX6_init_306 wd_31 ?_
  refine k_dup G dX6_init_307 rfl ?_
  refine k_bip (v := 32) G dX6_init_308 rfl ?_
  refine k_bip (v := 108) G dX6_init_310 rfl ?_
  refine k_wst (f := wdF 32) (f2 := wdF 33) G rfl dX6_init_312 wd_32 ?_
  refine k_dup G dX6_init_313 rfl ?_
  refine k_bip (v := 33) G dX6_init_314 rfl ?_
  refine k_bip (v := 105) G dX6_init_316 rfl ?_
  refine k_wst (f := wdF 33) (f2 := wdF 34) G rfl dX6_init_318 wd_33 ?_
  refine k_dup G dX6_init_319 rfl ?_
  refine k_bip (v := 34) G dX6_init_320 rfl ?_
  refine k_bip (v := 109) G dX6_init_322 rfl ?_
  refine k_wst (f := wdF 34) (f2 := wdF 35) G rfl dX6_init_324 wd_34 ?_
  refine k_dup G dX6_init_325 rfl ?_
  refine k_bip (v := 35) G dX6_init_326 rfl ?_
  refine k_bip (v := 105) G dX6_init_328 rfl ?_
  refine k_wst (f := wdF 35) (f2 := wdF 36) G rfl dX6_init_330 wd_35 ?_
  refine k_dup G dX6_init_331 rfl ?_
  refine k_bip (v := 36) G dX6_init_332 rfl ?_
  refine k_bip (v := 116) G dX6_init_334 rfl ?_
  refine k_wst (f := wdF 36) (f2 := wdF 37) G rfl dX6_init_336 wd_36 ?_
  refine k_dup G dX6_init_337 rfl ?_
  refine k_bip (v := 37) G dX6_init_338 rfl ?_
  refine k_icst (v := 0) G dX6_init_340 rfl ?_
  refine k_wst (f := wdF 37) (f2 := wdF 38) G rfl dX6_init_341 wd_37 ?_
  refine k_dup G dX6_init_342 rfl ?_
  refine k_bip (v := 38) G dX6_init_343 rfl ?_
  refine k_icst (v := 0) G dX6_init_345 rfl ?_
  refine k_wst (f := wdF 38) (f2 := wdF 39) G rfl dX6_init_346 wd_38 ?_
  refine k_dup G dX6_init_347 rfl ?_
  refine k_bip (v := 39) G dX6_init_348 rfl ?_
  refine k_icst (v := 0) G dX6_init_350 rfl ?_
  refine k_wst (f := wdF 39) (f2 := wdF 40) G rfl dX6_init_351 wd_39 ?_
  refine k_dup G dX6_init_352 rfl ?_
  refine k_bip (v := 40) G dX6_init_353 rfl ?_
  refine k_bip (v := 115) G dX6_init_355 rfl ?_
  refine k_wst (f := wdF 40) (f2 := wdF 41) G rfl dX6_init_357 wd_40 ?_
  refine k_dup G dX6_init_358 rfl ?_
  refine k_bip (v := 41) G dX6_init_359 rfl ?_
  refine k_bip (v := 116) G dX6_init_361 rfl ?_
  refine k_wst (f := wdF 41) (f2 := wdF 42) G rfl dX6_init_363 wd_41 ?_
  refine k_dup G dX6_init_364 rfl ?_
  refine k_bip (v := 42) G dX6_init_365 rfl ?_
  refine k_bip (v := 114) G dX6_init_367 rfl ?_
  refine k_wst (f := wdF 42) (f2 := wdF 43) G rfl dX6_init_369 wd_42 ?_
  refine k_dup G dX6_init_370 rfl ?_
  refine k_bip (v := 43) G dX6_init_371 rfl ?_
  refine k_bip (v := 101) G dX6_init_373 rfl ?_
  refine k_wst (f := wdF 43) (f2 := wdF 44) G rfl dX6_init_375 wd_43 ?_
  refine k_dup G dX6_init_376 rfl ?_
  refine k_bip (v := 44) G dX6_init_377 rfl ?_
  refine k_bip (v := 110) G dX6_init_379 rfl ?_
  refine k_wst (f := wdF 44) (f2 := wdF 45) G rfl dX6_init_381 wd_44 ?_
  refine k_dup G dX6_init_382 rfl ?_
  refine k_bip (v := 45) G dX6_init_383 rfl ?_
  refine k_bip (v := 103) G dX6_init_385 rfl ?_
  refine k_wst (f := wdF 45) (f2 := wdF 46) G rfl dX6_init_387 wd_45 ?_
  refine k_dup G dX6_init_388 rfl ?_
  refine k_bip (v := 46) G dX6_init_389 rfl ?_
  refine k_bip (v := 116) G dX6_init_391 rfl ?_
  refine k_wst (f := wdF 46) (f2 := wdF 47) G rfl dX6_init_393 wd_46 ?_
  refine k_dup G dX6_init_394 rfl ?_
  refine k_bip (v := 47) G dX6_init_395 rfl ?_
  refine k_bip (v := 104) G dX6_init_397 rfl ?_
  refine k_wst (f := wdF 47) (f2 := wdF 48) G rfl dX6_init_399 wd_47 ?_
  refine k_dup G dX6_init_400 rfl ?_
  refine k_bip (v := 48) G dX6_init_401 rfl ?_
  refine k_bip (v := 100) G dX6_init_403 rfl ?_
  refine k_wst (f := wdF 48) (f2 := wdF 49) G rfl dX6_init_405 wd_48 ?_
  refine k_dup G dX6_init_406 rfl ?_
  refine k_bip (v := 49) G dX6_init_407 rfl ?_
  refine k_bip (v := 114) G dX6_init_409 rfl ?_
  refine k_wst (f := wdF 49) (f2 := wdF 50) G rfl dX6_init_411 wd_49 ?_
  refine k_dup G dX6_init_412 rfl ?_
  refine k_bip (v := 50) G dX6_init_413 rfl ?_
  refine k_bip (v := 111) G dX6_init_415 rfl ?_
  refine k_wst (f := wdF 50) (f2 := wdF 51) G rfl dX6_init_417 wd_50 ?_
  refine k_dup G dX6_init_418 rfl ?_
  refine k_bip (v := 51) G dX6_init_419 rfl ?_
  refine k_bip (v := 112) G dX6_init_421 rfl ?_
  refine k_wst (f := wdF 51) (f2 := wdF 52) G rfl dX6_init_423 wd_51 ?_
  refine k_dup G dX6_init_424 rfl ?_
  refine k_bip (v := 52) G dX6_init_425 rfl ?_
  refine k_icst (v := 0) G dX6_init_427 rfl ?_
  refine k_wst (f := wdF 52) (f2 := wdF 53) G rfl dX6_init_428 wd_52 ?_
  refine k_dup G dX6_init_429 rfl ?_
  refine k_bip (v := 53) G dX6_init_430 rfl ?_
  refine k_icst (v := 0) G dX6_init_432 rfl ?_
  refine k_wst (f := wdF 53) (f2 := wdF 54) G rfl dX6_init_433 wd_53 ?_
  refine k_dup G dX6_init_434 rfl ?_
  refine k_bip (v := 54) G dX6_init_435 rfl ?_
  refine k_icst (v := 0) G dX6_init_437 rfl ?_
  refine k_wst (f := wdF 54) (f2 := wdF 55) G rfl dX6_init_438 wd_54 ?_
  refine k_dup G dX6_init_439 rfl ?_
  refine k_bip (v := 55) G dX6_init_440 rfl ?_
  refine k_icst (v := 0) G dX6_init_442 rfl ?_
  refine k_wst (f := wdF 55) (f2 := wdF 56) G rfl dX6_init_443 wd_55 ?_
  refine k_dup G dX6_init_444 rfl ?_
  refine k_bip (v := 56) G dX6_init_445 rfl ?_
  refine k_bip (v := 98) G dX6_init_447 rfl ?_
  refine k_wst (f := wdF 56) (f2 := wdF 57) G rfl dX6_init_449 wd_56 ?_
  refine k_dup G dX6_init_450 rfl ?_
  refine k_bip (v := 57) G dX6_init_451 rfl ?_
  refine k_bip (v := 101) G dX6_init_453 rfl ?_
  refine k_wst (f := wdF 57) (f2 := wdF 58) G rfl dX6_init_455 wd_57 ?_
  refine k_dup G dX6_init_456 rfl ?_
  refine k_bip (v := 58) G dX6_init_457 rfl ?_
  refine k_bip (v := 103) G dX6_init_459 rfl ?_
  refine k_wst (f := wdF 58) (f2 := wdF 59) G rfl dX6_init_461 wd_58 ?_
  refine k_dup G dX6_init_462 rfl ?_
  refine k_bip (v := 59) G dX6_init_463 rfl ?_
  refine k_bip (v := 105) G dX6_init_465 rfl ?_
  refine k_wst (f := wdF 59) (f2 := wdF 60) G rfl dX6_init_467 wd_59 ?_
  refine k_dup G dX6_init_468 rfl ?_
  refine k_bip (v := 60) G dX6_init_469 rfl ?_
  refine k_bip (v := 110) G dX6_init_471 rfl ?_
  refine k_wst (f := wdF 60) (f2 := wdF 61) G rfl dX6_init_473 wd_60 ?_
  refine k_dup G dX6_init_474 rfl ?_
  refine k_bip (v := 61) G dX6_init_475 rfl ?_
  refine k_icst (v := 0) G dX6_init_477 rfl ?_
  refine k_wst (f := wdF 61) (f2 := wdF 62) G rfl dX6_init_478 wd_61 ?_
  refine k_dup G dX6_init_479 rfl ?_
  refine k_bip (v := 62) G dX6_init_480 rfl ?_
  refine k_icst (v := 0) G dX6_init_482 rfl ?_
  refine k_wst (f := wdF 62) (f2 := wdF 63) G rfl dX6_init_483 wd_62 ?_
  refine k_dup G dX6_init_484 rfl ?_
  refine k_bip (v := 63) G dX6_init_485 rfl ?_
  refine k_icst (v := 0) G dX6_init_487 rfl ?_
  refine k_wst (f := wdF 63) (f2 := wdF 64) G rfl dX6_init_488 wd_63 ?_
  refine k_putF G hI 0 rfl rfl 26 (by decide) (in_g (List.mem_of_getElem? (i := 790) (by decide +kernel)) rfl) rfl rfl (ty := .array .int) (by decide +kernel) rfl rfl (Nat.le_of_ble_eq_true rfl) dX6_init_489 [(h0, .inr (6, [.ref q1, .ref q2, .ref q3, .int 0, .ref q4, .ref q5, .int 0, .int 0, .ref q6, .ref q7, .ref q8, .ref q9, .ref q10, .ref q11, .int 0, .int 0, .long 0, .long 0, .int 0, .ref q12, .ref q13, .ref q14, .ref q15, .int 0, .int 0, .ref q16, .ref q17, .null])), (q1, .inl (c1, 58, .inl (fun _ => 0))), (q2, .inl (c2, 464, .inl (fun _ => 0))), (q3, .inl (c3, 58, .inl (fun _ => 0))), (q4, .inl (c4, 3, .inl (fun _ => 0))), (q5, .inl (c5, 120, .inl (fun _ => 0))), (q6, .inl (c6, 6, .inr (.inl (fun _ => 0)))), (q7, .inl (c7, 6, .inl (fun _ => 0))), (q8, .inl (c8, 6, .inr (.inl (fun _ => 0)))), (q9, .inl (c9, 6, .inr (.inl (fun _ => 0)))), (q10, .inl (c10, 36, .inr (.inl (fun _ => 0)))), (q11, .inl (c11, 6, .inl (fun _ => 0))), (q12, .inl (c12, 45, .inl (fun _ => 0))), (q13, .inl (c13, 45, .inl (fun _ => 0))), (q14, .inl (c14, 45, .inr (.inl (fun _ => 0)))), (q15, .inl (c15, 45, .inr (.inl (fun _ => 0)))), (q16, .inl (c16, 10, .inr (.inl (fun _ => 0)))), (q17, .inl (c17, 64, .inl (wdF 64)))] rfl ?_
  refine k_aload G dX6_init_492 rfl 0 rfl ?_
  refine k_icst (v := 4) G dX6_init_493 rfl ?_
  refine k_newa G .int rfl ac_int 4 (4, .inl (fun _ => 0)) (fun _ => rfl) (by decide) rfl (by decide) (Nat.le_of_ble_eq_true rfl) (Nat.le_of_ble_eq_true rfl) dX6_init_494 (fun q18 c18 => ?_)
  show YW Γ 496 [(0, .ref h0)] [.ref q18, .ref h0] [(h0, .inr (6, [.ref q1, .ref q2, .ref q3, .int 0, .ref q4, .ref q5, .int 0, .int 0, .ref q6, .ref q7, .ref q8, .ref q9, .ref q10, .ref q11, .int 0, .int 0, .long 0, .long 0, .int 0, .ref q12, .ref q13, .ref q14, .ref q15, .int 0, .int 0, .ref q16, .ref q17, .null])), (q1, .inl (c1, 58, .inl (fun _ => 0))), (q2, .inl (c2, 464, .inl (fun _ => 0))), (q3, .inl (c3, 58, .inl (fun _ => 0))), (q4, .inl (c4, 3, .inl (fun _ => 0))), (q5, .inl (c5, 120, .inl (fun _ => 0))), (q6, .inl (c6, 6, .inr (.inl (fun _ => 0)))), (q7, .inl (c7, 6, .inl (fun _ => 0))), (q8, .inl (c8, 6, .inr (.inl (fun _ => 0)))), (q9, .inl (c9, 6, .inr (.inl (fun _ => 0)))), (q10, .inl (c10, 36, .inr (.inl (fun _ => 0)))), (q11, .inl (c11, 6, .inl (fun _ => 0))), (q12, .inl (c12, 45, .inl (fun _ => 0))), (q13, .inl (c13, 45, .inl (fun _ => 0))), (q14, .inl (c14, 45, .inr (.inl (fun _ => 0)))), (q15, .inl (c15, 45, .inr (.inl (fun _ => 0)))), (q16, .inl (c16, 10, .inr (.inl (fun _ => 0)))), (q17, .inl (c17, 64, .inl (wdF 64))), (q18, .inl (c18, 4, .inl (fun _ => 0)))] [(c1, .int), (c2, .int), (c3, .int), (c4, .int), (c5, .int), (c6, .long), (c7, .int), (c8, .long), (c9, .long), (c10, .long), (c11, .int), (c12, .int), (c13, .int), (c14, .long), (c15, .long), (c16, .long), (c17, .int), (c18, .int)] 18 1027
  refine k_putF G hI 0 rfl rfl 27 (by decide) (in_g (List.mem_of_getElem? (i := 791) (by decide +kernel)) rfl) rfl rfl (ty := .array .int) (by decide +kernel) rfl rfl (Nat.le_of_ble_eq_true rfl) dX6_init_496 [(h0, .inr (6, [.ref q1, .ref q2, .ref q3, .int 0, .ref q4, .ref q5, .int 0, .int 0, .ref q6, .ref q7, .ref q8, .ref q9, .ref q10, .ref q11, .int 0, .int 0, .long 0, .long 0, .int 0, .ref q12, .ref q13, .ref q14, .ref q15, .int 0, .int 0, .ref q16, .ref q17, .ref q18])), (q1, .inl (c1, 58, .inl (fun _ => 0))), (q2, .inl (c2, 464, .inl (fun _ => 0))), (q3, .inl (c3, 58, .inl (fun _ => 0))), (q4, .inl (c4, 3, .inl (fun _ => 0))), (q5, .inl (c5, 120, .inl (fun _ => 0))), (q6, .inl (c6, 6, .inr (.inl (fun _ => 0)))), (q7, .inl (c7, 6, .inl (fun _ => 0))), (q8, .inl (c8, 6, .inr (.inl (fun _ => 0)))), (q9, .inl (c9, 6, .inr (.inl (fun _ => 0)))), (q10, .inl (c10, 36, .inr (.inl (fun _ => 0)))), (q11, .inl (c11, 6, .inl (fun _ => 0))), (q12, .inl (c12, 45, .inl (fun _ => 0))), (q13, .inl (c13, 45, .inl (fun _ => 0))), (q14, .inl (c14, 45, .inr (.inl (fun _ => 0)))), (q15, .inl (c15, 45, .inr (.inl (fun _ => 0)))), (q16, .inl (c16, 10, .inr (.inl (fun _ => 0)))), (q17, .inl (c17, 64, .inl (wdF 64))), (q18, .inl (c18, 4, .inl (fun _ => 0)))] rfl ?_
  refine k_aload G dX6_init_499 rfl 0 rfl ?_
  refine k_get G 0 rfl rfl 0 (by decide) (in_g (List.mem_of_getElem? (i := 764) (by decide +kernel)) rfl) rfl dX6_init_500 ?_
  refine k_icst (v := 0) G dX6_init_503 rfl ?_
  refine k_icst (v := 4) G dX6_init_504 rfl ?_
  refine k_iast G 1 0 rfl rfl rfl dX6_init_505 [(h0, .inr (6, [.ref q1, .ref q2, .ref q3, .int 0, .ref q4, .ref q5, .int 0, .int 0, .ref q6, .ref q7, .ref q8, .ref q9, .ref q10, .ref q11, .int 0, .int 0, .long 0, .long 0, .int 0, .ref q12, .ref q13, .ref q14, .ref q15, .int 0, .int 0, .ref q16, .ref q17, .ref q18])), (q1, .inl (c1, 58, .inl (upd (fun _ => 0) 0 4))), (q2, .inl (c2, 464, .inl (fun _ => 0))), (q3, .inl (c3, 58, .inl (fun _ => 0))), (q4, .inl (c4, 3, .inl (fun _ => 0))), (q5, .inl (c5, 120, .inl (fun _ => 0))), (q6, .inl (c6, 6, .inr (.inl (fun _ => 0)))), (q7, .inl (c7, 6, .inl (fun _ => 0))), (q8, .inl (c8, 6, .inr (.inl (fun _ => 0)))), (q9, .inl (c9, 6, .inr (.inl (fun _ => 0)))), (q10, .inl (c10, 36, .inr (.inl (fun _ => 0)))), (q11, .inl (c11, 6, .inl (fun _ => 0))), (q12, .inl (c12, 45, .inl (fun _ => 0))), (q13, .inl (c13, 45, .inl (fun _ => 0))), (q14, .inl (c14, 45, .inr (.inl (fun _ => 0)))), (q15, .inl (c15, 45, .inr (.inl (fun _ => 0)))), (q16, .inl (c16, 10, .inr (.inl (fun _ => 0)))), (q17, .inl (c17, 64, .inl (wdF 64))), (q18, .inl (c18, 4, .inl (fun _ => 0)))] rfl ?_
  exact k_vret G hR ⟨fun k => [h0, q1, q2, q3, q4, q5, q6, q7, q8, q9, q10, q11, q12, q13, q14, q15, q16, q17, q18].getD k 0, fun k => [0, c1, c2, c3, c4, c5, c6, c7, c8, c9, c10, c11, c12, c13, c14, c15, c16, c17, c18].getD k 0, rfl, rfl, rfl⟩ dX6_init_506
